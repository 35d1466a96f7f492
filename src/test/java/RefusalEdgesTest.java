import java.util.function.Supplier;
import java.util.function.ToIntFunction;

/**
 * The boundary cases of the refusals: each alone, each pair of which both apply, the last call
 * that is taken and the first that is refused. What is refused changes nothing and can be undone.
 */
public final class RefusalEdgesTest {
    private static final int TAKEN = -1;
    private static final int SECRET = -2;
    private static final int LOCKED = -3;
    private static final int ROOT = -4;
    private static final int BUSY = -5;
    private static final int SHARED = -6;
    private static final int ELSEWHERE = -7;
    private static final int FULL = -8;

    private static final String A = "spaces;volume a(b(c),d,e);volume u(v(w));root a;";
    /** 1 u on b, secret; 2 a on d, shared. */
    private static final String SECRET_ONE = A + "mount u/b;make secret/b;mount a/d;"
        + "make shared/d;";
    /** 1 u on b, 2 u on v of 1; 3 a on d, shared. */
    private static final String BUSY_ONE = A + "mount u/b;mount u/b/v;mount a/d;make shared/d;";
    /** 1 u on b, 2 a on d, private; the root is shared. */
    private static final String SHARED_ONE = A + "make shared/;mount u/b;mount a/d;"
        + "make private/d;";
    /** 1 a on d and 2 on c are in one group; 3 u on b. What is put on 1 is copied onto 2. */
    private static final String TWO = A + "mount a/d;make shared/d;bind/d>/b/c;mount u/b;";

    private RefusalEdgesTest() {
    }

    public static void main(String[] args) {
        Check.choose(args);
        mounting();
        binding();
        movingTaken();
        movingSecret();
        movingLocked();
        movingOthers();
        unmounting();
        copying();
        Check.end("RefusalEdgesTest");
    }

    private static void mounting() {
        edge("Promise 18, TAKEN", TAKEN, () -> load(A + "mount u/b;"), x -> x.mount(0, 1, 0));
        edge("Promise 18, TAKEN by a copy", TAKEN, () -> copied(A + "make shared/;mount u/b;"),
            x -> x.mount(2, 1, 0));
        edge("Promise 18, FULL", FULL, () -> filled(A, 40), x -> x.mount(0, 1, 0));
        edge("Promise 18, FULL by a copy", FULL, () -> filled(TWO, 39), x -> x.mount(1, 1, 0));
        edge("Promise 18, TAKEN before FULL", TAKEN, () -> filled(A + "mount u/b;", 40),
            x -> x.mount(0, 1, 0));
        taken("Promise 18, 40 mounts are not FULL", 1, () -> filled(A, 39),
            x -> x.mount(0, 1, 0));
        taken("Promise 18, 40 mounts with a copy are not FULL", 2, () -> filled(TWO, 38),
            x -> x.mount(1, 1, 0));
        taken("Promise 18, another place is not TAKEN", 1, () -> load(A + "mount u/b;"),
            x -> x.mount(0, 2, 0));
        taken("Promise 18, a locked, secret root is none", 1, RefusalEdgesTest::lockedSecret,
            x -> x.mount(2, 3, 0));
    }

    private static void binding() {
        edge("Promise 19, TAKEN", TAKEN, () -> load(A + "mount u/b;"), x -> x.bind(0, 0, 0, 1));
        edge("Promise 19, SECRET", SECRET, () -> load(SECRET_ONE), x -> x.bind(1, 0, 0, 4));
        edge("Promise 19, SECRET, a part of it", SECRET, () -> load(SECRET_ONE),
            x -> x.bind(1, 2, 0, 4));
        edge("Promise 19, SECRET, onto itself", SECRET, () -> load(SECRET_ONE),
            x -> x.bind(1, 2, 1, 1));
        edge("Promise 19, ELSEWHERE", ELSEWHERE, () -> copied(A), x -> x.bind(0, 1, 1, 1));
        edge("Promise 19, ELSEWHERE the other way", ELSEWHERE, () -> copied(A),
            x -> x.bind(1, 1, 0, 1));
        edge("Promise 19, FULL", FULL, () -> filled(A, 40), x -> x.bind(0, 1, 0, 1));
        edge("Promise 19, FULL by a copy", FULL, () -> filled(TWO, 39), x -> x.bind(0, 0, 1, 1));
        edge("Promise 19, TAKEN before SECRET", TAKEN, () -> load(SECRET_ONE),
            x -> x.bind(1, 0, 0, 3));
        edge("Promise 19, TAKEN before ELSEWHERE", TAKEN, () -> copied(A + "mount u/b;"),
            x -> x.bind(0, 0, 2, 1));
        edge("Promise 19, TAKEN before FULL", TAKEN, () -> filled(A + "mount u/b;", 40),
            x -> x.bind(0, 0, 0, 1));
        edge("Promise 19, SECRET before ELSEWHERE", SECRET, () -> copied(SECRET_ONE),
            x -> x.bind(1, 0, 3, 4));
        edge("Promise 19, SECRET before FULL", SECRET, () -> filled(TWO + "make secret/b;", 40),
            x -> x.bind(3, 0, 0, 0));
        edge("Promise 19, ELSEWHERE before FULL", ELSEWHERE, () -> filledCopy(A, 40),
            x -> x.bind(1, 0, 0, 0));
        taken("Promise 19, onto a secret one is not SECRET", 1, () -> load(SECRET_ONE),
            x -> x.bind(0, 1, 1, 1));
        taken("Promise 19, what is on a secret one is not SECRET", 1,
            () -> load(SECRET_ONE + "mount u/b/v;"), x -> x.bind(3, 0, 0, 4));
        taken("Promise 19, a locked one is not refused", 1, () -> locked(A + "mount u/b;"),
            x -> x.bind(2, 1, 2, 3));
        taken("Promise 19, a part of a mount onto itself is not refused", 1, () -> load(A),
            x -> x.bind(0, 0, 0, 0));
        taken("Promise 19, 40 mounts are not FULL", 1, () -> filled(A, 39),
            x -> x.bind(0, 1, 0, 1));
        taken("Promise 19, 40 mounts with a copy are not FULL", 2, () -> filled(TWO, 38),
            x -> x.bind(0, 0, 1, 1));
    }

    private static void movingTaken() {
        edge("Promise 20, TAKEN", TAKEN, () -> load(A + "mount u/b;mount u/d;"),
            x -> x.move(1, 0, 3));
        edge("Promise 20, TAKEN by itself", TAKEN, () -> load(A + "mount u/b;"),
            x -> x.move(1, 0, 1));
        edge("Promise 20, TAKEN before SECRET", TAKEN, () -> load(SECRET_ONE + "mount u/d/e;"),
            x -> x.move(1, 2, 4));
        edge("Promise 20, TAKEN before LOCKED", TAKEN,
            () -> locked(A + "mount u/b;mount u/d;"), x -> x.move(4, 3, 3));
        edge("Promise 20, TAKEN before ROOT", TAKEN, () -> load(A + "mount u/b;"),
            x -> x.move(0, 0, 1));
        edge("Promise 20, TAKEN before BUSY", TAKEN, () -> load(BUSY_ONE + "mount u/d/e;"),
            x -> x.move(1, 3, 4));
        edge("Promise 20, TAKEN before SHARED", TAKEN, () -> load(SHARED_ONE),
            x -> x.move(1, 0, 3));
        edge("Promise 20, TAKEN before ELSEWHERE, in another space", TAKEN,
            () -> copied(A + "mount u/b;"), x -> x.move(1, 2, 1));
        edge("Promise 20, TAKEN before ELSEWHERE, on itself", TAKEN,
            () -> load(A + "mount u/b;mount u/b/v;"), x -> x.move(1, 1, 1));
        edge("Promise 20, TAKEN before FULL", TAKEN, () -> takenWhenFull(),
            x -> x.move(3, 1, 4));
        taken("Promise 20, another place is not TAKEN", 0,
            () -> load(A + "mount u/b;mount u/d;"), x -> x.move(1, 0, 4));
    }

    private static void movingSecret() {
        both("SECRET", SECRET, "nothing else", 0, () -> load(SECRET_ONE), x -> x.move(1, 2, 1));
        both("SECRET before LOCKED", SECRET, "LOCKED", LOCKED, () -> sharedInLocked(SECRET_ONE),
            x -> x.move(4, 5, 1));
        both("SECRET before ROOT", SECRET, "ROOT", ROOT, RefusalEdgesTest::secretRoot,
            x -> x.move(3, 2, 1));
        both("SECRET before BUSY", SECRET, "BUSY", BUSY, () -> load(SECRET_ONE + "mount u/b/v;"),
            x -> x.move(1, 2, 1));
        both("SECRET before SHARED", SECRET, "SHARED", SHARED,
            () -> load(SECRET_ONE + "make shared/;"), x -> x.move(1, 2, 1));
        both("SECRET before ELSEWHERE", SECRET, "ELSEWHERE", ELSEWHERE, () -> copied(SECRET_ONE),
            x -> x.move(1, 5, 1));
        both("SECRET before FULL", SECRET, "FULL", FULL, () -> filled(TWO + "make secret/b;", 40),
            x -> x.move(3, 1, 1));
        taken("Promise 20, a secret one onto one that is not shared", 0, () -> load(SECRET_ONE),
            x -> x.move(1, 0, 4));
        taken("Promise 20, a secret one onto a slave", 0, RefusalEdgesTest::secretAndSlave,
            x -> x.move(1, 2, 1));
        taken("Promise 20, onto a secret one", 0, () -> load(SECRET_ONE), x -> x.move(2, 1, 1));
    }

    private static void movingLocked() {
        edge("Promise 20, LOCKED", LOCKED, () -> locked(A + "mount u/b;mount a/d;"),
            x -> x.move(4, 5, 1));
        edge("Promise 20, LOCKED before ROOT and ELSEWHERE", LOCKED,
            () -> locked(A + "mount u/b;mount a/d;"), x -> x.move(3, 0, 4));
        edge("Promise 20, LOCKED before BUSY", LOCKED, () -> sharedInLocked(BUSY_ONE),
            x -> x.move(5, 7, 1));
        edge("Promise 20, LOCKED before SHARED", LOCKED, RefusalEdgesTest::lockedOnShared,
            x -> x.move(4, 5, 1));
        edge("Promise 20, LOCKED before ELSEWHERE", LOCKED,
            () -> locked(A + "mount u/b;mount a/d;"), x -> x.move(4, 2, 1));
        edge("Promise 20, LOCKED before ELSEWHERE, on itself", LOCKED,
            () -> locked(A + "mount u/b;mount a/d;"), x -> x.move(4, 4, 1));
        edge("Promise 20, LOCKED before FULL", LOCKED, RefusalEdgesTest::lockedWhenFull,
            x -> x.move(7, 5, 1));
        taken("Promise 20, onto a locked one", 0, RefusalEdgesTest::unlockedInLocked,
            x -> x.move(6, 4, 1));
    }

    private static void movingOthers() {
        edge("Promise 20, ROOT before ELSEWHERE, on itself", ROOT, () -> load(A),
            x -> x.move(0, 0, 1));
        edge("Promise 20, ROOT before ELSEWHERE, in another space", ROOT, () -> copied(A),
            x -> x.move(0, 1, 1));
        edge("Promise 20, ROOT before BUSY", ROOT, () -> load(BUSY_ONE), x -> x.move(0, 3, 1));
        edge("Promise 20, ROOT before FULL", ROOT, () -> filledCopy(TWO, 40),
            x -> x.move(0, 1, 1));
        edge("Promise 20, BUSY", BUSY, () -> load(BUSY_ONE), x -> x.move(1, 3, 1));
        edge("Promise 20, BUSY by a mount on its top", BUSY,
            () -> load(A + "mount u/b;mount u/b;mount a/d;make shared/d;"),
            x -> x.move(1, 3, 1));
        edge("Promise 20, BUSY before SHARED", BUSY, () -> load(BUSY_ONE + "make shared/;"),
            x -> x.move(1, 3, 1));
        edge("Promise 20, BUSY before ELSEWHERE, in another space", BUSY,
            () -> copied(BUSY_ONE), x -> x.move(1, 7, 1));
        edge("Promise 20, BUSY before ELSEWHERE, under it", BUSY,
            () -> load(BUSY_ONE + "make shared/b/v;"), x -> x.move(1, 2, 1));
        edge("Promise 20, BUSY before FULL", BUSY, () -> filled(TWO + "mount u/b;", 40),
            x -> x.move(3, 1, 1));
        taken("Promise 20, not BUSY onto one that is not shared", 0,
            () -> load(BUSY_ONE + "make slave/d;"), x -> x.move(1, 3, 1));
        taken("Promise 20, not BUSY with nothing on it", 0, () -> load(BUSY_ONE),
            x -> x.move(2, 3, 1));
        edge("Promise 20, SHARED", SHARED, () -> load(SHARED_ONE), x -> x.move(1, 2, 1));
        edge("Promise 20, SHARED, onto the same mount", SHARED, () -> load(SHARED_ONE),
            x -> x.move(1, 0, 4));
        edge("Promise 20, SHARED before ELSEWHERE, in another space", SHARED,
            () -> copied(SHARED_ONE), x -> x.move(1, 5, 1));
        edge("Promise 20, SHARED before ELSEWHERE, on itself", SHARED, () -> load(SHARED_ONE),
            x -> x.move(1, 1, 1));
        edge("Promise 20, SHARED before FULL", SHARED,
            () -> filled(TWO + "make shared/;", 40), x -> x.move(3, 1, 1));
        taken("Promise 20, not SHARED, from one that is not", 0,
            () -> load(SHARED_ONE + "make slave/;"), x -> x.move(1, 2, 1));
        edge("Promise 20, ELSEWHERE, in another space", ELSEWHERE, () -> copied(A + "mount u/b;"),
            x -> x.move(1, 2, 3));
        edge("Promise 20, ELSEWHERE, on itself", ELSEWHERE, () -> load(A + "mount u/b;"),
            x -> x.move(1, 1, 0));
        edge("Promise 20, ELSEWHERE, on a mount on it", ELSEWHERE,
            () -> load(A + "mount u/b;mount u/b/v;"), x -> x.move(1, 2, 0));
        edge("Promise 20, ELSEWHERE, on a mount far under it", ELSEWHERE,
            () -> load(A + "mount u/b;".repeat(30)), x -> x.move(1, 30, 0));
        edge("Promise 20, ELSEWHERE before FULL", ELSEWHERE, () -> filledCopy(TWO, 40),
            x -> x.move(x.mountAt(39), 1, 1));
        edge("Promise 20, FULL", FULL, () -> filled(TWO, 40), x -> x.move(3, 1, 1));
        taken("Promise 20, 40 mounts are not FULL", 1, () -> filled(TWO, 39),
            x -> x.move(3, 1, 1));
        taken("Promise 20, nor if no copy is made", 0, () -> filled(TWO, 40),
            x -> x.move(3, 0, 0));
    }

    private static void unmounting() {
        edge("Promise 21, LOCKED", LOCKED, () -> locked(A + "mount u/b;"), x -> x.unmount(3));
        edge("Promise 21, ROOT", ROOT, () -> load(A), x -> x.unmount(0));
        edge("Promise 21, ROOT of another space", ROOT, () -> copied(A), x -> x.unmount(1));
        edge("Promise 21, BUSY", BUSY, () -> load(A + "mount u/b;mount u/b/v;"),
            x -> x.unmount(1));
        edge("Promise 21, BUSY by a mount on its top", BUSY,
            () -> load(A + "mount u/b;mount u/b;"), x -> x.unmount(1));
        edge("Promise 21, LOCKED before ROOT", LOCKED, () -> locked(A), x -> x.unmount(1));
        edge("Promise 21, LOCKED before BUSY", LOCKED,
            () -> locked(A + "mount u/b;mount u/b;"), x -> x.unmount(4));
        edge("Promise 21, LOCKED before ROOT and BUSY", LOCKED, () -> locked(A + "mount u/b;"),
            x -> x.unmount(2));
        edge("Promise 21, ROOT before BUSY", ROOT, () -> load(A + "mount u/b;"),
            x -> x.unmount(0));
        taken("Promise 21, not BUSY by what is beside it", 1,
            () -> load(A + "mount u/b;mount u/d;mount u/b/v;"), x -> x.unmount(2));
        taken("Promise 21, what is on a locked one is not LOCKED", 1,
            RefusalEdgesTest::unlockedInLocked, x -> x.unmount(6));
        taken("Promise 21, a secret one is not refused", 1, () -> load(SECRET_ONE),
            x -> x.unmount(1));
    }

    private static void copying() {
        edge("Promise 23, FULL by 41 mounts", FULL, () -> stacked(21, 20),
            x -> x.copySpace(0, false));
        edge("Promise 23, FULL by 41 mounts, locked", FULL, () -> stacked(21, 20),
            x -> x.copySpace(0, true));
        edge("Promise 23, FULL by a small space", FULL, RefusalEdgesTest::thirtyNineAndTwo,
            x -> x.copySpace(1, false));
        edge("Promise 23, FULL by a 5th space", FULL, RefusalEdgesTest::fourSpaces,
            x -> x.copySpace(0, false));
        edge("Promise 23, FULL by a 5th space, the copy of the last", FULL,
            RefusalEdgesTest::fourSpaces, x -> x.copySpace(3, true));
        edge("Promise 23, FULL by both", FULL, RefusalEdgesTest::fullSpaces,
            x -> x.copySpace(0, false));
        taken("Promise 23, 40 mounts are not FULL", 1, () -> stacked(20, 20),
            x -> x.copySpace(0, false));
        taken("Promise 23, 40 mounts are not FULL, locked", 1, () -> stacked(20, 20),
            x -> x.copySpace(0, true));
        taken("Promise 23, 4 spaces are not FULL", 3, RefusalEdgesTest::threeSpaces,
            x -> x.copySpace(2, true));
    }

    private static void edge(String name, int due, Supplier<MountSpaces> maker,
            ToIntFunction<MountSpaces> call) {
        Check.edge(name, () -> Check.refused("the call", due, maker, call));
    }

    /** Two refusals apply: the second one is due when mount is made private, not secret. */
    private static void both(String name, int due, String other, int otherDue,
            Supplier<MountSpaces> maker, ToIntFunction<MountSpaces> call) {
        edge("Promise 20, " + name, due, maker, call);
        Supplier<MountSpaces> notSecret = () -> {
            MountSpaces x = maker.get();
            for (int i = 0; i < x.count(2); i++) {
                if (x.told(x.mountAt(i), 7) == 1) {
                    x.make(x.mountAt(i), 0);
                }
            }
            return x;
        };
        if (otherDue < 0) {
            edge("Promise 20, " + other + ", what is not SECRET", otherDue, notSecret, call);
        } else {
            taken("Promise 20, " + other + ", what is not SECRET", otherDue, notSecret, call);
        }
    }

    /** The call must be taken, so that what is refused beside it is at the boundary. */
    private static void taken(String name, int due, Supplier<MountSpaces> maker,
            ToIntFunction<MountSpaces> call) {
        Check.edge(name, () -> {
            MountSpaces x = maker.get();
            long before = x.checksum();
            Check.same("the call", call.applyAsInt(x), due);
            Check.same("it changes something", x.checksum() == before, false);
            Check.same("undo", x.undo(), Math.min(Check.changes(maker.get()), 7));
            Check.same("checksum after undo", x.checksum(), before);
        });
    }

    private static MountSpaces load(String text) {
        return Check.loaded(text);
    }

    /** With mounts upon one another on e, until there are so many. */
    private static MountSpaces filled(String text, int mounts) {
        int before = Check.loaded(text).count(2);
        MountSpaces x = Check.loaded(text + "mount u/e;".repeat(mounts - before));
        Check.same("mounts", x.count(2), mounts);
        return x;
    }

    private static MountSpaces copied(String text) {
        MountSpaces x = Check.loaded(text);
        x.copySpace(0, false);
        return x;
    }

    private static MountSpaces locked(String text) {
        MountSpaces x = Check.loaded(text);
        x.copySpace(0, true);
        return x;
    }

    /** A second space, in which mounts are upon one another on the root's top. */
    private static MountSpaces filledCopy(String text, int mounts) {
        MountSpaces x = copied(text);
        stack(x, x.mountAt(x.count(2) / 2), 0, mounts);
        return x;
    }

    /** Mounts the first on a place, and each other one on the one before it. */
    private static void stack(MountSpaces x, int onto, int place, int mounts) {
        x.mount(onto, place, 1);
        for (int n = 0; n < 40 && x.count(2) < mounts; n++) {
            x.mount(x.mountAt(x.count(2) - 1), 0, 1);
        }
        Check.same("mounts", x.count(2), mounts);
    }

    /** A locked copy of the space; the copy of its last mount is shared. */
    private static MountSpaces sharedInLocked(String text) {
        MountSpaces x = locked(text);
        x.make(x.mountAt(x.count(2) - 1), 1);
        return x;
    }

    /** 2 is the locked and secret root of space 1; 3 u on b of it. */
    private static MountSpaces lockedSecret() {
        return locked(A + "mount u/b;make secret/;");
    }

    /** 4 and 5, on b and d of root 3, are locked; the root is shared. */
    private static MountSpaces lockedOnShared() {
        MountSpaces x = locked(A + "mount u/b;mount a/d;");
        x.make(3, 1);
        return x;
    }

    /** 3 to 5 are locked, 6 on e of root 3 is not. */
    private static MountSpaces unlockedInLocked() {
        MountSpaces x = locked(A + "mount u/b;mount a/d;");
        x.mount(3, 4, 1);
        return x;
    }

    /** 3 is the only mount of space 1, and secret. */
    private static MountSpaces secretRoot() {
        MountSpaces x = copied(SECRET_ONE);
        x.unmount(4);
        x.unmount(5);
        x.make(3, 3);
        return x;
    }

    /** 1 is secret; 2 on d is a slave of 3 on e. */
    private static MountSpaces secretAndSlave() {
        return load(SECRET_ONE + "bind/d>/e;make slave/d;");
    }

    /** e of 1 is taken by 4, that of 2 is free; there are 40 mounts. */
    private static MountSpaces takenWhenFull() {
        MountSpaces x = load(TWO);
        x.mount(1, 4, 1);
        x.make(4, 0);
        x.mount(4, 0, 1);
        x.unmount(5);
        stack(x, 6, 0, 40);
        Check.same("e of 1", x.mountOn(1, 4), 4);
        Check.same("e of 2", x.mountOn(2, 4), -1);
        return x;
    }

    /** 7, which is locked, would be copied when it is put onto 5, as 8 is in its group. */
    private static MountSpaces lockedWhenFull() {
        MountSpaces x = locked(TWO);
        x.make(5, 1);
        x.bind(5, 0, 4, 4);
        stack(x, 0, 4, 40);
        Check.same("wouldMake(5, 1)", x.wouldMake(5, 1), 2);
        return x;
    }

    /** This many mounts in space 0, so many of them upon one another. */
    private static MountSpaces stacked(int mounts, int least) {
        MountSpaces x = Check.loaded(A + "mount u/e;".repeat(least - 1));
        if (mounts > least) {
            x.mount(0, 1, 1);
        }
        Check.same("mounts", x.count(2), mounts);
        return x;
    }

    /** 37 mounts in space 0 and two in space 1. */
    private static MountSpaces thirtyNineAndTwo() {
        MountSpaces x = copied(A + "mount u/b;");
        stack(x, 0, 3, 39);
        return x;
    }

    private static MountSpaces threeSpaces() {
        MountSpaces x = copied(A + "mount u/b;");
        x.copySpace(0, true);
        return x;
    }

    private static MountSpaces fourSpaces() {
        MountSpaces x = threeSpaces();
        x.copySpace(0, false);
        return x;
    }

    /** Four spaces with 40 mounts. */
    private static MountSpaces fullSpaces() {
        MountSpaces x = fourSpaces();
        stack(x, 0, 3, 40);
        return x;
    }
}
