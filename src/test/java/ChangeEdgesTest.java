import java.util.NoSuchElementException;
import java.util.function.Consumer;
import java.util.function.IntConsumer;
import java.util.function.Supplier;

/** The boundary cases of promises 18 to 24, but for the refusals: see RefusalEdgesTest. */
public final class ChangeEdgesTest {
    private static final int MIN = Integer.MIN_VALUE;
    private static final int MAX = Integer.MAX_VALUE;
    private static final String A = "spaces;volume a(b(c),d,e);volume u(v(w));root a;";

    private ChangeEdgesTest() {
    }

    public static void main(String[] args) {
        Check.choose(args);
        mounts();
        moves();
        unmounts();
        kinds();
        spaces();
        exceptions();
        Check.end("ChangeEdgesTest");
    }

    private static void mounts() {
        Check.edge("Promise 18, directory 0 as its top, not shared", ChangeEdgesTest::mounted);
        Check.edge("Promise 18, the first and the last volume", ChangeEdgesTest::mountVolumes);
        Check.edge("Promise 18, the number of mounts that were made", ChangeEdgesTest::madeOnes);
        Check.edge("Promise 19, volume, told top, group and master", ChangeEdgesTest::bound);
        Check.edge("Promise 19, neither secret nor locked, without what is on it",
            ChangeEdgesTest::boundAlone);
        Check.edge("Promise 19, the top and the directories below it", ChangeEdgesTest::boundTop);
        Check.edge("Promise 19, followers as they are before", ChangeEdgesTest::boundFollowers);
    }

    private static void moves() {
        Check.edge("Promise 20, with all that is under it", ChangeEdgesTest::movedWithAll);
        Check.edge("Promise 20, all else of it stays", ChangeEdgesTest::movedStays);
        Check.edge("Promise 20, 0 if none is made", ChangeEdgesTest::movedNone);
        Check.edge("Promise 20, copies are counted, itself is not",
            ChangeEdgesTest::movedCopies);
        Check.edge("Promise 20, the place that it leaves is free",
            ChangeEdgesTest::movedLeaves);
        Check.edge("Promise 20, a copy on the place that it leaves",
            ChangeEdgesTest::movedLeavesToCopy);
    }

    private static void unmounts() {
        Check.edge("Promise 21, if the mount on which it was is not shared",
            ChangeEdgesTest::unmountUnshared);
        Check.edge("Promise 21, if there is one", ChangeEdgesTest::unmountMissing);
        Check.edge("Promise 21, on the same directory", ChangeEdgesTest::unmountSameDirectory);
        Check.edge("Promise 21, it has the same volume", ChangeEdgesTest::unmountSameVolume);
        Check.edge("Promise 21, it has the same top", ChangeEdgesTest::unmountSameTop);
        Check.edge("Promise 21, it is not locked", ChangeEdgesTest::unmountLocked);
        Check.edge("Promise 21, no mount is on a place of it", ChangeEdgesTest::unmountBusy);
        Check.edge("Promise 21, no mount is on a place of it then, ascending",
            ChangeEdgesTest::unmountBusyThen);
        Check.edge("Promise 21, whatever its group, also a secret one",
            ChangeEdgesTest::unmountGroups);
        Check.edge("Promise 21, a follower that was itself removed",
            ChangeEdgesTest::unmountRemovedFollower);
        Check.edge("Promise 21, only followers of the mount on which it was",
            ChangeEdgesTest::unmountNotUp);
    }

    private static void kinds() {
        Check.edge("Promise 22, private", ChangeEdgesTest::makePrivate);
        Check.edge("Promise 22, shared: a new group if it has none",
            ChangeEdgesTest::makeShared);
        Check.edge("Promise 22, slave: if another mount has this group, too",
            ChangeEdgesTest::makeSlave);
        Check.edge("Promise 22, slave: its master stays otherwise",
            ChangeEdgesTest::makeSlaveAgain);
        Check.edge("Promise 22, secret", ChangeEdgesTest::makeSecret);
        Check.edge("Promise 22, a root, a locked one", ChangeEdgesTest::makeLocked);
    }

    private static void spaces() {
        Check.edge("Promise 23, the index of the new space", ChangeEdgesTest::copyIndex);
        Check.edge("Promise 23, in ascending order", ChangeEdgesTest::copyOrder);
        Check.edge("Promise 23, the same group and master if it is not locked",
            ChangeEdgesTest::copyGroups);
        Check.edge("Promise 23, locked: group as master, or master",
            ChangeEdgesTest::copyLocked);
        Check.edge("Promise 23, whether it is secret and locked",
            ChangeEdgesTest::copySecret);
        Check.edge("Promise 23, on the place that corresponds", ChangeEdgesTest::copyPlaces);
        Check.edge("Promise 24, the last space with all its mounts", ChangeEdgesTest::dropLast);
        Check.edge("Promise 24, two spaces are enough, one is not",
            ChangeEdgesTest::dropOnly);
        Check.edge("Promise 24, what others got by it stays", ChangeEdgesTest::dropKeeps);
    }

    private static void exceptions() {
        Check.edge("Promise 18, no such mount or directory, or volume",
            ChangeEdgesTest::mountThrows);
        Check.edge("Promise 18, no such mount comes before no such volume",
            ChangeEdgesTest::mountOrder);
        Check.edge("Promise 18, an exception comes before a refusal",
            ChangeEdgesTest::mountRefusal);
        Check.edge("Promise 19, no such source, mount or directory",
            ChangeEdgesTest::bindThrows);
        Check.edge("Promise 20, no such mount or directory", ChangeEdgesTest::moveThrows);
        Check.edge("Promise 21, no such mount", ChangeEdgesTest::unmountThrows);
        Check.edge("Promise 22, no such mount, kind out of range", ChangeEdgesTest::makeThrows);
        Check.edge("Promise 22, no such mount comes before kind", ChangeEdgesTest::makeOrder);
        Check.edge("Promise 23, no such space", ChangeEdgesTest::copyThrows);
        Check.edge("Promise 23, an exception comes before a refusal",
            ChangeEdgesTest::copyRefusal);
        Check.edge("Promise 24, only one space", ChangeEdgesTest::dropThrows);
    }

    private static MountSpaces filled() {
        // 0 a; 1 from b on d; 2 u on b; 3 u on e is gone.
        MountSpaces x = Check.loaded(A + "bind/b>/d;mount u/b;mount u/e;");
        x.unmount(3);
        return x;
    }

    /** No mount has such a number in what filled makes. */
    private static void noMounts(IntConsumer call) {
        for (int mount : new int[] {MIN, -1, 3, 4, 40, MAX}) {
            call.accept(mount);
        }
    }

    /** No such directory is in mount 1 of what filled makes. */
    private static void notInMount(IntConsumer call) {
        for (int directory : new int[] {MIN, -1, 0, 3, 4, 5, 12, MAX}) {
            call.accept(directory);
        }
    }

    private static void noElement(String name, Consumer<MountSpaces> call) {
        Check.thrown(name, NoSuchElementException.class, ChangeEdgesTest::filled, call);
    }

    private static void outOfBounds(String name, Supplier<MountSpaces> maker,
            Consumer<MountSpaces> call) {
        Check.thrown(name, IndexOutOfBoundsException.class, maker, call);
    }

    private static void mounted() {
        MountSpaces x = Check.loaded(A);
        Check.same("mount", x.mount(0, 2, 1), 1);
        Check.mount(x, 1, 0, 1, 0, 0, 2, 0, 0, 0, 0);
        x.copySpace(0, true);
        Check.same("on a locked one", x.mount(2, 1, 0), 1);
        Check.mount(x, 4, 1, 0, 0, 2, 1, 0, 0, 0, 0);
        x.make(2, 3);
        Check.same("on a secret one", x.mount(2, 3, 0), 1);
        Check.mount(x, 5, 1, 0, 0, 2, 3, 0, 0, 0, 0);
    }

    private static void mountVolumes() {
        MountSpaces x = Check.loaded("spaces;volume a(e,f,g,h);volume b;volume c;volume d;"
            + "root a;");
        for (int volume = 0; volume < 4; volume++) {
            Check.same("mount", x.mount(0, volume + 1, volume), 1);
            Check.same("its volume", x.told(volume + 1, 1), volume);
        }
        MountSpaces y = new MountSpaces();
        Check.same("the volume of a new object", y.mount(0, 0, 0), 1);
        Check.raises("no other", IndexOutOfBoundsException.class, () -> y.mount(1, 0, 1));
    }

    private static void madeOnes() {
        MountSpaces x = Check.loaded(A + "make shared/;");
        Check.same("one", x.mount(0, 1, 1), 1);
        x.copySpace(0, false);
        Check.same("two", x.mount(0, 3, 1), 2);
        x.copySpace(0, true);
        Check.same("three", x.mount(0, 4, 1), 3);
        x.copySpace(0, true);
        Check.same("four", x.mount(0, 0, 1), 4);
    }

    private static void bound() {
        MountSpaces x = Check.loaded(A + "mount u/b;make shared/b;bind/b>/d;make slave/d;"
            + "make shared/d;");
        // 1 group 1; 2 group 2 master 1.
        Check.same("bind of 2", x.bind(2, 1, 0, 4), 1);
        Check.mount(x, 3, 0, 1, 1, 0, 4, 2, 1, 0, 0);
        Check.same("bind of the root", x.bind(0, 2, 0, 2), 1);
        Check.mount(x, 4, 0, 0, 2, 0, 2, 0, 0, 0, 0);
        x.make(3, 2);
        Check.same("bind of a slave", x.bind(3, 2, 0, 0), 1);
        Check.mount(x, 5, 0, 1, 2, 0, 0, 0, 2, 0, 0);
        Check.same("no group was used", x.count(8), 2);
    }

    private static void boundAlone() {
        MountSpaces x = Check.loaded(A + "mount u/b;mount u/b/v;make secret/b/v;");
        x.copySpace(0, true);
        // 3 to 5 are locked.
        Check.same("bind of a locked one", x.bind(4, 0, 3, 3), 1);
        Check.mount(x, 6, 1, 1, 0, 3, 3, 0, 0, 0, 0);
        Check.same("what is on it stays there", x.mountOn(6, 1), -1);
        Check.same("onto a secret one", x.bind(1, 2, 2, 2), 1);
        Check.mount(x, 7, 0, 1, 2, 2, 2, 0, 0, 0, 0);
    }

    private static void boundTop() {
        MountSpaces x = Check.loaded(A);
        Check.same("the whole mount", x.bind(0, 0, 0, 1), 1);
        Check.same("its top", x.told(1, 2), 0);
        Check.same("the last directory", x.bind(0, 4, 0, 3), 1);
        Check.same("its top", x.told(2, 2), 4);
        Check.same("places in it", x.mountOn(2, 4), -1);
        Check.same("onto its only place", x.bind(2, 4, 2, 4), 1);
        Check.same("there", x.mountOn(2, 4), 3);
        Check.raises("a directory beside it", NoSuchElementException.class,
            () -> x.bind(2, 3, 0, 0));
        Check.raises("the one above it", NoSuchElementException.class,
            () -> x.bind(2, 0, 0, 0));
        Check.raises("a place beside it", NoSuchElementException.class,
            () -> x.bind(0, 0, 2, 3));
    }

    private static void boundFollowers() {
        MountSpaces x = Check.loaded(A + "mount u/b;make shared/b;bind/b>/d;");
        // 1 and 2 have the group 1; the root has none.
        Check.same("followers of the source get none", x.bind(1, 0, 0, 4), 1);
        Check.same("mounts", Check.mounts(x), "0 1 2 3");
        Check.same("onto the source", x.bind(1, 0, 1, 0), 3);
        Check.same("mounts", Check.mounts(x), "0 1 2 3 4 5 6");
        Check.same("none on the new one", x.mountOn(4, 0), -1);
    }

    private static void movedWithAll() {
        MountSpaces x = Check.loaded(A + "mount u/b;mount a/b/v;mount u/b/v/d;mount a/d;");
        // 3 on 2 on 1 on b of 0; 4 on d.
        Check.same("move", x.move(1, 4, 2), 0);
        Check.same("path of 1", Check.path(x, 1), "/d/b/c");
        Check.same("path of 2", Check.path(x, 2), "/d/b/c/v");
        Check.same("path of 3", Check.path(x, 3), "/d/b/c/v/d");
        Check.same("3 is on 2", x.told(3, 3), 2);
        Check.same("look", Check.look(x, 0, "/d/b/c/v/d/v"), 301);
        Check.same("mounts", Check.mounts(x), "0 1 2 3 4");
    }

    private static void movedStays() {
        MountSpaces x = Check.loaded(A + "bind/b>/d;make shared/d;bind/d>/e;make slave/e;"
            + "make shared/e;mount u/b;make secret/b;");
        // 2 from b on e has the group 2 and the master 1; 3 is secret.
        Check.same("move", x.move(2, 0, 2), 0);
        Check.mount(x, 2, 0, 0, 1, 0, 2, 2, 1, 0, 0);
        Check.same("move of a secret one", x.move(3, 0, 4), 0);
        Check.mount(x, 3, 0, 1, 0, 0, 4, 0, 0, 1, 0);
        Check.same("made", x.count(7), 4);
        Check.same("groups", x.count(8), 2);
    }

    private static void movedNone() {
        MountSpaces x = Check.loaded(A + "mount u/b;mount a/d;make shared/d;");
        Check.same("onto one that is not shared", x.move(1, 0, 4), 0);
        Check.same("onto a shared one that is alone", x.move(1, 2, 1), 0);
        Check.same("it is there", x.mountOn(2, 1), 1);
        Check.same("its group", x.told(1, 5), 2);
        Check.same("mounts", x.count(2), 3);
    }

    private static void movedCopies() {
        MountSpaces x = Check.loaded(A + "mount u/b;mount a/d;make shared/d;");
        x.copySpace(0, false);
        x.copySpace(0, true);
        Check.same("two copies", x.move(1, 2, 1), 2);
        Check.mount(x, 1, 0, 1, 0, 2, 1, 2, 0, 0, 0);
        Check.mount(x, 9, 1, 1, 0, 5, 1, 2, 0, 0, 0);
        Check.mount(x, 10, 2, 1, 0, 8, 1, 0, 2, 0, 0);
        Check.same("the copies in other spaces stay", x.mountOn(3, 1), 4);
    }

    private static void movedLeaves() {
        MountSpaces x = Check.loaded(A + "mount u/b;mount u/d;");
        Check.same("move", x.move(1, 0, 4), 0);
        Check.same("free", x.mountOn(0, 1), -1);
        Check.same("for another one", x.move(2, 0, 1), 0);
        Check.same("and back", x.move(1, 0, 3), 0);
        Check.same("mountOn(0, 1)", x.mountOn(0, 1), 2);
        Check.same("mountOn(0, 3)", x.mountOn(0, 3), 1);
        Check.same("mountOn(0, 4)", x.mountOn(0, 4), -1);
    }

    private static void movedLeavesToCopy() {
        MountSpaces x = Check.loaded(A + "mount a/b;make shared/b;bind/b>/d;make slave/d;"
            + "mount u/d/e;");
        // 3 is on e of 2, a slave of 1: no mount is there when it is on e of 1.
        Check.same("move", x.move(3, 1, 4), 1);
        Check.mount(x, 3, 0, 1, 0, 1, 4, 2, 0, 0, 0);
        Check.mount(x, 4, 0, 1, 0, 2, 4, 0, 2, 0, 0);
    }

    private static void unmountUnshared() {
        MountSpaces x = Check.loaded(A + "mount u/b;make shared/b;");
        x.copySpace(0, false);
        Check.same("the mount is shared, that on which it is is not", x.unmount(1), 1);
        Check.same("mounts", Check.mounts(x), "0 2 3");
        x = Check.loaded(A + "make shared/;mount u/b;");
        x.copySpace(0, true);
        x.make(1, 0);
        x.mount(2, 3, 1);
        x.mount(0, 3, 1);
        x.make(0, 0);
        Check.same("it was shared before", x.unmount(5), 1);
        Check.same("mounts", Check.mounts(x), "0 1 2 3 4");
    }

    private static void unmountMissing() {
        MountSpaces x = Check.loaded(A + "make shared/;");
        x.copySpace(0, true);
        x.mount(0, 1, 1);
        Check.same("from the slave", x.unmount(3), 1);
        Check.same("none is there", x.unmount(2), 1);
        Check.same("mounts", Check.mounts(x), "0 1");
    }

    private static void unmountSameDirectory() {
        MountSpaces x = Check.loaded(A + "make shared/;");
        x.copySpace(0, true);
        x.mount(1, 3, 1);
        x.mount(1, 0, 1);
        x.mount(0, 1, 1);
        x.unmount(5);
        Check.same("others are on other directories", x.unmount(4), 1);
        Check.same("mounts", Check.mounts(x), "0 1 2 3");
        x.mount(1, 1, 1);
        x.mount(0, 1, 1);
        Check.same("one is on this one", x.unmount(7), 2);
        Check.same("mounts", Check.mounts(x), "0 1 2 3");
    }

    private static void unmountSameVolume() {
        for (int volume = 0; volume < 2; volume++) {
            MountSpaces x = Check.loaded(A + "make shared/;");
            x.copySpace(0, true);
            x.mount(1, 1, volume);
            x.mount(0, 1, 1);
            Check.same("unmount, the other of volume " + volume, x.unmount(3), volume + 1);
        }
    }

    private static void unmountSameTop() {
        for (int top = 0; top < 3; top++) {
            MountSpaces x = Check.loaded(A + "make shared/;");
            x.copySpace(0, true);
            x.bind(1, top, 1, 3);
            x.make(2, 0);
            x.bind(0, 1, 0, 3);
            Check.same("unmount, the other with top " + top, x.unmount(3), top == 1 ? 2 : 1);
        }
    }

    private static void unmountLocked() {
        MountSpaces x = Check.loaded(A + "make shared/;mount u/b;");
        x.copySpace(0, true);
        x.copySpace(0, false);
        // 3 is locked; 5 is not.
        Check.same("unmount", x.unmount(1), 2);
        Check.same("the locked one stays", Check.mounts(x), "0 2 3 4");
    }

    private static void unmountBusy() {
        MountSpaces x = Check.loaded(A + "make shared/;mount u/b;");
        x.copySpace(0, false);
        x.copySpace(0, false);
        x.make(3, 0);
        x.mount(3, 0, 0);
        Check.same("a mount on its top", x.unmount(1), 2);
        Check.same("it stays", Check.mounts(x), "0 2 3 4 6");
        x.unmount(6);
        x.mount(0, 1, 1);
        Check.same("the one that stayed, and now has nothing on it", x.unmount(7), 3);
        Check.same("mounts", Check.mounts(x), "0 2 4");
    }

    private static void unmountBusyThen() {
        MountSpaces x = Check.loaded(A + "make shared/;bind/>/b;");
        x.bind(0, 0, 1, 1);
        x.make(0, 1);
        // 2 on b of 1 on b of 0, all of the group 1 and of the volume a.
        x.bind(0, 0, 2, 1);
        Check.same("mounts", Check.mounts(x), "0 1 2 3");
        // From 2: 0 has 1 on b, on which 2 is; then 1 has 2 on b, on which nothing is now.
        Check.same("the smaller follower is looked at first", x.unmount(3), 2);
        Check.same("mounts", Check.mounts(x), "0 1");
        MountSpaces y = Check.loaded(A + "mount a/b;make shared/b;bind/b>/d;bind/b>/e;");
        y.move(1, 3, 3);
        // 1 on d of 3, 4 on d of 1, 5 on d of 2, all of the group 1 and of the volume a.
        Check.same("mounts", Check.mounts(y), "0 1 2 3 4 5");
        // From 2: 1 has 4 on d; then 3 has 1 on d, on which nothing is now.
        Check.same("what a smaller follower has lost is looked at then", y.unmount(5), 3);
        Check.same("mounts", Check.mounts(y), "0 2 3");
    }

    private static void unmountGroups() {
        for (int kind = 0; kind < 4; kind++) {
            MountSpaces x = Check.loaded(A + "make shared/;");
            x.copySpace(0, true);
            x.mount(0, 1, 1);
            x.make(3, kind);
            Check.same("the other made one of kind " + kind, x.unmount(2), 2);
            x.mount(0, 1, 1);
            x.make(4, kind);
            Check.same("this one made one of kind " + kind, x.unmount(4), 2);
        }
    }

    private static void unmountRemovedFollower() {
        MountSpaces x = Check.loaded(A + "make shared/;bind/>/b;");
        x.bind(0, 0, 1, 1);
        // 2 on b of 1 on b of 0: 1 is removed behind 2, and it was the one on which 2 was.
        Check.same("unmount", x.unmount(2), 2);
        Check.same("mounts", Check.mounts(x), "0");
        MountSpaces z = Check.loaded(A + "make shared/;bind/>/b;");
        z.bind(0, 0, 1, 1);
        z.copySpace(0, false);
        // The same, with 3 to 5 in space 1: the followers go on when 1 is gone.
        Check.same("unmount", z.unmount(2), 3);
        Check.same("mounts", Check.mounts(z), "0 3 4");
        MountSpaces y = Check.loaded(A + "make shared/;bind/>/b;");
        y.copySpace(0, false);
        // 1 and 3 are followers of 0, and removed before they are looked at.
        Check.same("unmount of a follower", y.unmount(1), 2);
        Check.same("mounts", Check.mounts(y), "0 2");
    }

    private static void unmountNotUp() {
        MountSpaces x = Check.loaded(A + "make shared/;");
        x.copySpace(0, true);
        x.make(1, 1);
        x.copySpace(1, true);
        x.mount(0, 1, 1);
        // 3 on 0, 4 on 1, 5 on 2, each a slave of the one before.
        Check.same("from the middle", x.unmount(4), 2);
        Check.same("mounts", Check.mounts(x), "0 1 2 3");
    }

    /** Makes mount 1 one of the kind; its group, its master and whether it is secret are due. */
    private static void make(MountSpaces x, int mount, int kind, int group, int master,
            int secret) {
        int groups = x.count(8);
        int locked = x.told(mount, 8);
        String call = "make(" + mount + ", " + kind + ")";
        Check.same(call, x.make(mount, kind), group);
        Check.same("group after " + call, x.told(mount, 5), group);
        Check.same("master after " + call, x.told(mount, 6), master);
        Check.same("secret after " + call, x.told(mount, 7), secret);
        Check.same("locked after " + call, x.told(mount, 8), locked);
        Check.same("groups after " + call, x.count(8), Math.max(groups, group));
    }

    /** 1 u on b: its kinds are, one after the other, the numbers that are given. */
    private static MountSpaces made(int... kinds) {
        MountSpaces x = Check.loaded(A + "mount u/b;");
        for (int kind : kinds) {
            x.make(1, kind);
        }
        return x;
    }

    /** 1 u on b and 2 u on d of one group, 1; 1 is its slave then, and has the group 2. */
    private static MountSpaces sharedSlave() {
        return Check.loaded(A + "mount u/b;make shared/b;bind/b>/d;make slave/b;make shared/b;");
    }

    private static void makePrivate() {
        make(made(), 1, 0, 0, 0, 0);
        make(made(1), 1, 0, 0, 0, 0);
        make(made(3), 1, 0, 0, 0, 0);
        make(made(0), 1, 0, 0, 0, 0);
        make(sharedSlave(), 1, 0, 0, 0, 0);
        make(sharedSlave(), 2, 0, 0, 0, 0);
    }

    private static void makeShared() {
        make(made(), 1, 1, 1, 0, 0);
        make(made(1), 1, 1, 1, 0, 0);
        make(made(1, 0), 1, 1, 2, 0, 0);
        make(made(1, 2), 1, 1, 2, 0, 0);
        make(made(3), 1, 1, 1, 0, 0);
        make(made(1, 3), 1, 1, 2, 0, 0);
        make(sharedSlave(), 1, 1, 2, 1, 0);
        make(sharedSlave(), 2, 1, 1, 0, 0);
        MountSpaces x = sharedSlave();
        x.make(1, 2);
        make(x, 1, 1, 3, 1, 0);
    }

    private static void makeSlave() {
        make(made(), 1, 2, 0, 0, 0);
        make(made(1), 1, 2, 0, 0, 0);
        make(made(3), 1, 2, 0, 0, 0);
        // 2 alone has the group 1, of which 1 is a slave: that is not having it.
        make(sharedSlave(), 2, 2, 0, 0, 0);
        MountSpaces x = Check.loaded(A + "mount u/b;make shared/b;bind/b>/d;");
        make(x, 1, 2, 0, 1, 0);
        make(x, 2, 2, 0, 0, 0);
        MountSpaces y = Check.loaded(A + "make shared/;");
        y.copySpace(0, false);
        make(y, 0, 2, 0, 1, 0);
        MountSpaces z = Check.loaded(A + "make shared/;");
        z.copySpace(0, false);
        z.dropSpace();
        make(z, 0, 2, 0, 0, 0);
    }

    private static void makeSlaveAgain() {
        MountSpaces x = sharedSlave();
        // The group 2 is that of 1 alone, so its master 1 stays.
        make(x, 1, 2, 0, 1, 0);
        make(x, 1, 2, 0, 1, 0);
        MountSpaces y = sharedSlave();
        y.bind(1, 0, 0, 4);
        // 3 has the group 2, too.
        make(y, 1, 2, 0, 2, 0);
        make(y, 3, 2, 0, 1, 0);
    }

    private static void makeSecret() {
        make(made(), 1, 3, 0, 0, 1);
        make(made(1), 1, 3, 0, 0, 1);
        make(made(3), 1, 3, 0, 0, 1);
        make(sharedSlave(), 1, 3, 0, 0, 1);
        MountSpaces x = sharedSlave();
        make(x, 2, 3, 0, 0, 1);
        Check.same("its slave keeps its master", x.told(1, 6), 1);
    }

    private static void makeLocked() {
        MountSpaces x = Check.loaded(A + "make shared/;mount u/b;");
        x.copySpace(0, true);
        for (int mount : new int[] {0, 1, 2, 3}) {
            make(x, mount, 3, 0, 0, 1);
            make(x, mount, 0, 0, 0, 0);
            make(x, mount, 1, 3 + mount, 0, 0);
            make(x, mount, 2, 0, 0, 0);
        }
    }

    private static void copyIndex() {
        MountSpaces x = Check.loaded(A);
        Check.same("the second", x.copySpace(0, false), 1);
        Check.same("the third", x.copySpace(0, true), 2);
        Check.same("the fourth", x.copySpace(2, false), 3);
        x.dropSpace();
        Check.same("the fourth again", x.copySpace(1, true), 3);
    }

    private static void copyOrder() {
        MountSpaces x = Check.loaded(A + "mount u/b;mount a/d;mount u/e;");
        x.unmount(2);
        x.copySpace(0, false);
        x.mount(0, 3, 1);
        x.copySpace(0, false);
        // 4 5 6 are the copies of 0 1 3, and 8 9 10 11 those of 0 1 3 7.
        Check.same("mounts", Check.mounts(x), "0 1 3 4 5 6 7 8 9 10 11");
        Check.mount(x, 6, 1, 1, 0, 4, 4, 0, 0, 0, 0);
        Check.mount(x, 9, 2, 1, 0, 8, 1, 0, 0, 0, 0);
        Check.mount(x, 11, 2, 1, 0, 8, 3, 0, 0, 0, 0);
    }

    /** 0 none; 1 group 1; 2 master 1; 3 group 2 and master 1. */
    private static MountSpaces kindsOfGroups() {
        return Check.loaded(A + "mount u/b;make shared/b;bind/b>/d;make slave/d;"
            + "bind/b>/e;make slave/e;make shared/e;");
    }

    private static void copyGroups() {
        MountSpaces x = kindsOfGroups();
        x.copySpace(0, false);
        Check.mount(x, 4, 1, 0, 0, -1, -1, 0, 0, 0, 0);
        Check.mount(x, 5, 1, 1, 0, 4, 1, 1, 0, 0, 0);
        Check.mount(x, 6, 1, 1, 0, 4, 3, 0, 1, 0, 0);
        Check.mount(x, 7, 1, 1, 0, 4, 4, 2, 1, 0, 0);
        Check.same("no group was used", x.count(8), 2);
    }

    private static void copyLocked() {
        MountSpaces x = kindsOfGroups();
        x.copySpace(0, true);
        Check.mount(x, 4, 1, 0, 0, -1, -1, 0, 0, 0, 1);
        Check.mount(x, 5, 1, 1, 0, 4, 1, 0, 1, 0, 1);
        Check.mount(x, 6, 1, 1, 0, 4, 3, 0, 1, 0, 1);
        Check.mount(x, 7, 1, 1, 0, 4, 4, 0, 2, 0, 1);
        Check.same("no group was used", x.count(8), 2);
        Check.mount(x, 3, 0, 1, 0, 0, 4, 2, 1, 0, 0);
    }

    private static void copySecret() {
        MountSpaces x = Check.loaded(A + "mount u/b;make secret/b;");
        x.copySpace(0, false);
        Check.mount(x, 3, 1, 1, 0, 2, 1, 0, 0, 1, 0);
        x.copySpace(0, true);
        Check.mount(x, 5, 2, 1, 0, 4, 1, 0, 0, 1, 1);
        x.mount(4, 3, 1);
        x.copySpace(2, false);
        Check.mount(x, 7, 3, 0, 0, -1, -1, 0, 0, 0, 1);
        Check.mount(x, 8, 3, 1, 0, 7, 1, 0, 0, 1, 1);
        Check.mount(x, 9, 3, 1, 0, 7, 3, 0, 0, 0, 0);
    }

    private static void copyPlaces() {
        MountSpaces x = Check.loaded(A + "mount u/b;mount a/d;");
        x.move(1, 2, 1);
        x.mount(1, 2, 0);
        // 3 on w of 1 on b of 2 on d of 0.
        x.copySpace(0, false);
        Check.mount(x, 5, 1, 1, 0, 6, 1, 0, 0, 0, 0);
        Check.mount(x, 6, 1, 0, 0, 4, 3, 0, 0, 0, 0);
        Check.mount(x, 7, 1, 0, 0, 5, 2, 0, 0, 0, 0);
        for (int mount = 1; mount < 4; mount++) {
            Check.same("path of a copy", Check.path(x, mount + 4), Check.path(x, mount));
        }
        Check.same("seen(1)", x.seen(1), x.seen(0));
    }

    private static void dropLast() {
        MountSpaces x = Check.loaded(A + "mount u/b;mount u/b;");
        x.copySpace(0, false);
        x.copySpace(0, true);
        x.mount(2, 0, 0);
        x.mount(6, 4, 0);
        Check.same("dropSpace", x.dropSpace(), 7);
        Check.same("mounts", Check.mounts(x), "0 1 2 3 4 5 9");
        Check.same("spaces", x.count(1), 2);
        Check.same("dropSpace", x.dropSpace(), 4);
        Check.same("mounts", Check.mounts(x), "0 1 2 9");
        Check.same("the next number", x.count(7), 11);
        x.mount(9, 0, 0);
        Check.same("mounts", Check.mounts(x), "0 1 2 9 11");
    }

    private static void dropOnly() {
        MountSpaces x = Check.loaded(A);
        x.copySpace(0, false);
        Check.same("two spaces", x.dropSpace(), 1);
        Check.raises("one space", IllegalStateException.class, x::dropSpace);
        x.copySpace(0, false);
        x.copySpace(0, false);
        x.copySpace(0, false);
        for (int mounts = 3; mounts > 0; mounts--) {
            Check.same("dropSpace", x.dropSpace(), mounts);
        }
        Check.raises("one space again", IllegalStateException.class, x::dropSpace);
    }

    private static void dropKeeps() {
        MountSpaces x = Check.loaded(A + "make shared/;");
        x.copySpace(0, false);
        x.mount(1, 1, 1);
        Check.same("dropSpace", x.dropSpace(), 2);
        Check.mount(x, 3, 0, 1, 0, 0, 1, 2, 0, 0, 0);
        Check.same("followers(0)", x.followers(0), 1);
        Check.same("the group is no other mount's now", x.make(0, 2), 0);
        Check.same("so it is no master", x.told(0, 6), 0);
    }

    private static void mountThrows() {
        noMounts(mount -> noElement("mount(" + mount + ", 0, 0)", x -> x.mount(mount, 0, 0)));
        notInMount(place -> noElement("mount(1, " + place + ", 0)", x -> x.mount(1, place, 0)));
        for (int volume : new int[] {MIN, -1, 2, 3, 4, MAX}) {
            outOfBounds("mount(0, 0, " + volume + ")", ChangeEdgesTest::filled,
                x -> x.mount(0, 0, volume));
        }
    }

    private static void mountOrder() {
        for (int volume : new int[] {-1, 2}) {
            noMounts(mount -> noElement("mount(" + mount + ", 0, " + volume + ")",
                x -> x.mount(mount, 0, volume)));
            notInMount(place -> noElement("mount(1, " + place + ", " + volume + ")",
                x -> x.mount(1, place, volume)));
        }
    }

    private static void mountRefusal() {
        for (int volume : new int[] {-1, 2}) {
            outOfBounds("mount on a taken place", ChangeEdgesTest::filled,
                x -> x.mount(0, 1, volume));
            outOfBounds("mount when it is full",
                () -> Check.loaded(A + "mount u/e;".repeat(39)), x -> x.mount(0, 0, volume));
        }
    }

    private static void bindThrows() {
        noMounts(mount -> noElement("bind(" + mount + ", 0, 0, 0)",
            x -> x.bind(mount, 0, 0, 0)));
        noMounts(mount -> noElement("bind(0, 0, " + mount + ", 0)",
            x -> x.bind(0, 0, mount, 0)));
        notInMount(top -> noElement("bind(1, " + top + ", 0, 0)", x -> x.bind(1, top, 0, 0)));
        notInMount(place -> noElement("bind(0, 0, 1, " + place + ")",
            x -> x.bind(0, 0, 1, place)));
        noElement("bind of a wrong top onto a taken place", x -> x.bind(1, 0, 0, 1));
        noElement("bind(2, 3, 0, 0), a directory of another volume", x -> x.bind(2, 3, 0, 0));
    }

    private static void moveThrows() {
        noMounts(mount -> noElement("move(" + mount + ", 0, 0)", x -> x.move(mount, 0, 0)));
        noMounts(mount -> noElement("move(2, " + mount + ", 0)", x -> x.move(2, mount, 0)));
        notInMount(place -> noElement("move(2, 1, " + place + ")", x -> x.move(2, 1, place)));
        notInMount(place -> noElement("move of a root to " + place,
            x -> x.move(0, 1, place)));
        noElement("move of a wrong one to a taken place", x -> x.move(3, 0, 1));
    }

    private static void unmountThrows() {
        noMounts(mount -> noElement("unmount(" + mount + ")", x -> x.unmount(mount)));
    }

    private static void makeThrows() {
        noMounts(mount -> noElement("make(" + mount + ", 1)", x -> x.make(mount, 1)));
        for (int kind : new int[] {MIN, -1, 4, 5, MAX}) {
            Check.thrown("make(1, " + kind + ")", IllegalArgumentException.class,
                ChangeEdgesTest::filled, x -> x.make(1, kind));
        }
    }

    private static void makeOrder() {
        for (int kind : new int[] {-1, 4}) {
            noMounts(mount -> noElement("make(" + mount + ", " + kind + ")",
                x -> x.make(mount, kind)));
        }
    }

    private static void copyThrows() {
        for (int space : new int[] {MIN, -1, 1, 2, 4, MAX}) {
            outOfBounds("copySpace(" + space + ", false)", ChangeEdgesTest::filled,
                x -> x.copySpace(space, false));
            outOfBounds("copySpace(" + space + ", true)", ChangeEdgesTest::filled,
                x -> x.copySpace(space, true));
        }
        MountSpaces x = filled();
        x.copySpace(0, false);
        Check.raises("copySpace(2, true)", IndexOutOfBoundsException.class,
            () -> x.copySpace(2, true));
        Check.same("copySpace(1, true)", x.copySpace(1, true), 2);
    }

    private static MountSpaces fourSpaces() {
        MountSpaces x = Check.loaded(A);
        x.copySpace(0, false);
        x.copySpace(0, false);
        x.copySpace(0, false);
        return x;
    }

    private static void copyRefusal() {
        for (int space : new int[] {-1, 4, 5}) {
            outOfBounds("copySpace(" + space + ", true) of four spaces",
                ChangeEdgesTest::fourSpaces, x -> x.copySpace(space, true));
            outOfBounds("copySpace(" + space + ", true) of 40 mounts",
                () -> Check.loaded(A + "mount u/e;".repeat(39)), x -> x.copySpace(space, true));
        }
    }

    private static void dropThrows() {
        Check.thrown("dropSpace()", IllegalStateException.class, ChangeEdgesTest::filled,
            MountSpaces::dropSpace);
        Check.thrown("dropSpace() of a new object", IllegalStateException.class,
            MountSpaces::new, MountSpaces::dropSpace);
    }
}
