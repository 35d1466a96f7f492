import java.util.NoSuchElementException;

/** Promise 20: moving a mount with all that is under it. */
public final class MoveTest {
    private static final String A = "spaces;volume a(b(c),d,e);volume u(v(w));root a;";

    private MoveTest() {
    }

    public static void main(String[] args) {
        plain();
        ontoShared();
        intoItsFollower();
        placeThatIsLeft();
        sharedOnes();
        refusals();
        firstRefusal();
        full();
        wrong();
        Check.end("MoveTest");
    }

    private static void plain() {
        MountSpaces x = Check.loaded(A + "mount u/b;mount a/b/v;mount u/d;make secret/b;");
        // 1 u on b, 2 a on v of 1, 3 u on d.
        Check.same("to the place of another mount", x.move(1, 3, 2), 0);
        Check.mount(x, 1, 0, 1, 0, 3, 2, 0, 0, 1, 0);
        Check.mount(x, 2, 0, 0, 0, 1, 1, 0, 0, 0, 0);
        Check.same("the old place is free", x.mountOn(0, 1), -1);
        Check.same("what is under it goes with it", Check.path(x, 2), "/d/v/w/v");
        Check.same("to another place of the same one", x.move(1, 3, 0), 0);
        Check.same("there it is", x.mountOn(3, 0), 1);
        Check.same("there it was", x.mountOn(3, 2), -1);
        Check.same("it is made no second time", x.count(7), 4);
        x.make(1, 1);
        Check.same("a shared one with a mount on it, onto one that is not", x.move(1, 0, 2), 0);
        Check.mount(x, 1, 0, 1, 0, 0, 2, 1, 0, 0, 0);
        Check.same("no more groups", x.count(8), 1);
    }

    private static void ontoShared() {
        MountSpaces x = Check.loaded(A + "mount a/b;make shared/b;mount u/d;");
        x.copySpace(0, false);
        x.copySpace(0, true);
        x.make(4, 2);
        x.make(4, 1);
        // 1 group 1; 4 group 2 master 1; 7, locked, master 1. 2 is u on d of 0.
        Check.same("unshared onto shared", x.move(2, 1, 2), 2);
        Check.mount(x, 2, 0, 1, 0, 1, 2, 3, 0, 0, 0);
        Check.mount(x, 9, 1, 1, 0, 4, 2, 4, 3, 0, 0);
        Check.mount(x, 10, 2, 1, 0, 7, 2, 0, 3, 0, 0);
        Check.same("groups used", x.count(8), 4);
        x.undo();
        x.make(2, 1);
        x.copySpace(0, false);
        x.make(2, 2);
        // 2 has the master 3 now, and no group.
        Check.same("a slave onto shared", x.move(2, 1, 2), 3);
        Check.same("its group", x.told(2, 5), 4);
        Check.same("its master", x.told(2, 6), 3);
        int copy = x.mountOn(4, 2);
        Check.same("group of the copy on 4", x.told(copy, 5), 5);
        Check.same("its master", x.told(copy, 6), 4);
        Check.same("group of the copy on 7", x.told(x.mountOn(7, 2), 5), 0);
        Check.same("its master", x.told(x.mountOn(7, 2), 6), 4);
        Check.same("group of the copy on 10", x.told(x.mountOn(10, 2), 5), 4);
        Check.same("its master", x.told(x.mountOn(10, 2), 6), 3);
    }

    private static void intoItsFollower() {
        MountSpaces x = Check.loaded(A + "bind/>/b;make shared/b;bind/b>/d;make slave/d;");
        // 1 has the group 1; 2, which is moved onto it, the master 1, and so it follows it.
        Check.same("a slave onto its master", x.move(2, 1, 4), 1);
        Check.mount(x, 2, 0, 0, 0, 1, 4, 2, 1, 0, 0);
        Check.mount(x, 3, 0, 0, 0, 2, 4, 0, 2, 0, 0);
        x = Check.loaded(A + "bind/>/b;make shared/b;bind/b>/d;");
        Check.same("one of the group onto the other one", x.move(2, 1, 4), 1);
        Check.mount(x, 2, 0, 0, 0, 1, 4, 1, 0, 0, 0);
        Check.mount(x, 3, 0, 0, 0, 2, 4, 1, 0, 0, 0);
        x = Check.loaded(A + "bind/>/b;make shared/b;bind/b>/d;make slave/d;make shared/d;");
        Check.same("a shared slave onto its master", x.move(2, 1, 4), 1);
        Check.mount(x, 2, 0, 0, 0, 1, 4, 2, 1, 0, 0);
        Check.mount(x, 3, 0, 0, 0, 2, 4, 3, 2, 0, 0);
    }

    private static void placeThatIsLeft() {
        MountSpaces x = Check.loaded(A + "bind/>/b;make shared/b;bind/b>/d;make slave/d;"
            + "mount u/d/e;");
        // 3 is on e of 2, a slave of 1: when it goes to e of 1, a copy takes its place.
        Check.same("from the slave to its master", x.move(3, 1, 4), 1);
        Check.mount(x, 3, 0, 1, 0, 1, 4, 2, 0, 0, 0);
        Check.mount(x, 4, 0, 1, 0, 2, 4, 0, 2, 0, 0);
        x = Check.loaded(A + "bind/>/b;make shared/b;bind/b>/d;make slave/d;mount u/d/e;"
            + "mount u/e;".repeat(36));
        Check.same("when there are 40", x.count(2), 40);
        Check.same("that copy is one too many", x.move(3, 1, 4), -8);
    }

    private static void sharedOnes() {
        MountSpaces x = Check.loaded(A + "mount u/b;make shared/b;mount a/d;make shared/d;");
        x.copySpace(0, false);
        // 1 u group 1, 2 a group 2; 4 and 5 are the same in space 1.
        Check.same("shared onto shared", x.move(1, 2, 1), 1);
        Check.mount(x, 1, 0, 1, 0, 2, 1, 1, 0, 0, 0);
        Check.mount(x, 6, 1, 1, 0, 5, 1, 1, 0, 0, 0);
        Check.same("no group was used", x.count(8), 2);
        Check.same("now it is SHARED", x.move(1, 0, 1), -6);
        Check.same("also within the mount", x.move(1, 2, 2), -6);
    }

    private static void refusals() {
        MountSpaces x = Check.loaded(A + "mount u/b;mount u/d;mount a/d/v;make shared/d;");
        // 1 u on b, 2 u on d, shared; 3 a on v of 2.
        x.copySpace(0, true);
        // 4 to 7 are the locked copies.
        long before = x.checksum();
        Check.same("TAKEN", x.move(1, 0, 3), -1);
        Check.same("TAKEN by itself", x.move(1, 0, 1), -1);
        Check.same("LOCKED", x.move(5, 4, 2), -3);
        Check.same("ROOT", x.move(0, 1, 1), -4);
        Check.same("SHARED", x.move(3, 0, 2), -6);
        Check.same("ELSEWHERE, in another space", x.move(1, 4, 2), -7);
        Check.same("ELSEWHERE, on itself", x.move(1, 1, 1), -7);
        x.mount(1, 1, 1);
        Check.same("BUSY", x.move(1, 2, 2), -5);
        Check.same("ELSEWHERE, under it", x.move(1, 8, 1), -7);
        x.mount(8, 1, 1);
        Check.same("ELSEWHERE, further under it", x.move(1, 9, 1), -7);
        x.undo();
        x.undo();
        x.undo();
        x.undo();
        x.undo();
        Check.same("nothing changes", x.checksum(), before);
        x.make(1, 3);
        Check.same("SECRET", x.move(1, 2, 2), -2);
        Check.same("a secret one onto one that is not shared", x.move(1, 0, 2), 0);
    }

    private static void firstRefusal() {
        MountSpaces x = Check.loaded(A + "make shared/;mount u/b;make shared/b;");
        x.copySpace(0, true);
        // 2 and 3 are locked, 2 is a root.
        x.make(2, 3);
        x.make(3, 3);
        x.mount(3, 0, 1);
        Check.same("TAKEN before all", x.move(2, 0, 1), -1);
        Check.same("SECRET before LOCKED and ROOT", x.move(2, 0, 2), -2);
        x.make(2, 0);
        Check.same("LOCKED before ROOT, BUSY and ELSEWHERE", x.move(2, 0, 2), -3);
        x.make(3, 0);
        Check.same("LOCKED before BUSY and ELSEWHERE", x.move(3, 0, 2), -3);
        Check.same("ROOT before BUSY and ELSEWHERE", x.move(0, 0, 2), -4);
        x.mount(1, 1, 1);
        Check.same("BUSY before SHARED", x.move(1, 0, 2), -5);
        Check.same("BUSY before ELSEWHERE", x.move(1, 1, 2), -5);
        int under = x.mountOn(1, 1);
        Check.same("SHARED before ELSEWHERE", x.move(under, 2, 2), -6);
        Check.same("SHARED before ELSEWHERE, on itself", x.move(under, under, 1), -6);
    }

    private static void full() {
        MountSpaces x = Check.loaded(A + "bind/>/b;make shared/b;bind/b>/d;mount u/e;"
            + "mount u/e;".repeat(35));
        // 1 and 2 have the group 1; 3 to 38 are stacked on e.
        Check.same("39 mounts", x.count(2), 39);
        Check.same("one more", x.move(38, 1, 4), 1);
        Check.same("the stack", x.move(36, 37, 1), -7);
        x.undo();
        x.undo();
        Check.same("the 40th", x.mount(38, 1, 0), 1);
        Check.same("move it", x.move(39, 38, 2), 0);
        long before = x.checksum();
        Check.same("41", x.move(39, 1, 4), -8);
        Check.same("nothing changes", x.checksum(), before);
        Check.same("none is made there", x.move(39, 0, 2), 0);
        Check.same("ELSEWHERE before FULL", x.move(3, 38, 2), -7);
    }

    private static void wrong() {
        MountSpaces x = Check.loaded(A + "bind/b>/d;");
        for (int mount : new int[] {-1, 2, 40, Integer.MAX_VALUE, Integer.MIN_VALUE}) {
            Check.raises("move(" + mount + ", 0, 1)", NoSuchElementException.class,
                () -> x.move(mount, 0, 1));
            Check.raises("move(1, " + mount + ", 1)", NoSuchElementException.class,
                () -> x.move(1, mount, 1));
        }
        for (int place : new int[] {-1, 0, 3, 4, 12, Integer.MAX_VALUE, Integer.MIN_VALUE}) {
            Check.raises("move(0, 1, " + place + ")", NoSuchElementException.class,
                () -> x.move(0, 1, place));
        }
        Check.same("nothing changed", x.undo(), 0);
    }
}
