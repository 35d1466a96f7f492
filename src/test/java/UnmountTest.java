import java.util.NoSuchElementException;

/** Promise 21: unmounting, and what goes with it on the followers. */
public final class UnmountTest {
    private static final String A = "spaces;volume a(b(c),d,e);volume u(v(w));root a;";

    private UnmountTest() {
    }

    public static void main(String[] args) {
        plain();
        theOthers();
        followers();
        othersStay();
        upAndDown();
        followersBefore();
        refusals();
        wrong();
        Check.end("UnmountTest");
    }

    private static void plain() {
        MountSpaces x = Check.loaded(A + "mount u/b;mount u/d;mount u/d;");
        Check.same("unmount(1)", x.unmount(1), 1);
        Check.same("mounts", Check.mounts(x), "0 2 3");
        Check.same("its place", x.mountOn(0, 1), -1);
        Check.same("unmount(3)", x.unmount(3), 1);
        Check.same("unmount(2)", x.unmount(2), 1);
        Check.same("mounts", Check.mounts(x), "0");
        Check.same("made so far", x.count(7), 4);
        x.mount(0, 1, 1);
        Check.same("a new number", Check.mounts(x), "0 4");
    }

    private static void theOthers() {
        MountSpaces x = Check.loaded(A + "mount a/e;bind/b>/d;mount u/b;bind/b/v>/b/v/w;"
            + "make secret/b;make shared/d;bind/d/c>/b;make slave/b;");
        x.copySpace(0, true);
        Check.same("unmount(1)", x.unmount(1), 1);
        Check.mount(x, 0, 0, 0, 0, -1, -1, 0, 0, 0, 0);
        Check.mount(x, 2, 0, 0, 1, 0, 3, 1, 0, 0, 0);
        Check.mount(x, 3, 0, 1, 0, 0, 1, 0, 0, 1, 0);
        Check.mount(x, 4, 0, 1, 1, 3, 2, 0, 0, 0, 0);
        Check.mount(x, 5, 0, 0, 2, 3, 0, 0, 1, 0, 0);
        Check.mount(x, 6, 1, 0, 0, -1, -1, 0, 0, 0, 1);
        Check.mount(x, 7, 1, 0, 0, 6, 4, 0, 0, 0, 1);
        Check.mount(x, 8, 1, 0, 1, 6, 3, 0, 1, 0, 1);
        Check.mount(x, 9, 1, 1, 0, 6, 1, 0, 0, 1, 1);
        Check.mount(x, 10, 1, 1, 1, 9, 2, 0, 0, 0, 1);
        Check.mount(x, 11, 1, 0, 2, 9, 0, 0, 1, 0, 1);
    }

    private static void followers() {
        MountSpaces x = Check.loaded(A + "make shared/;");
        x.copySpace(0, false);
        x.copySpace(0, false);
        x.make(2, 2);
        x.make(2, 1);
        x.copySpace(2, true);
        // 0 and 1 group 1, 2 its slave with the group 2, 3 the slave of 2, locked itself.
        x.mount(0, 1, 1);
        Check.same("mounts", Check.mounts(x), "0 1 2 3 4 5 6 7");
        Check.same("from the middle", x.unmount(6), 2);
        Check.same("those above stay", Check.mounts(x), "0 1 2 3 4 5");
        Check.same("mount(2, 1, 1)", x.mount(2, 1, 1), 2);
        Check.same("by its group", x.unmount(5), 4);
        Check.same("all are gone", Check.mounts(x), "0 1 2 3");
        x.mount(0, 1, 1);
        x.make(1, 0);
        Check.same("one that is private now keeps its mount", x.unmount(10), 3);
        Check.same("mounts", Check.mounts(x), "0 1 2 3 11");
        Check.same("and sends nothing", x.unmount(11), 1);
    }

    private static void othersStay() {
        MountSpaces x = Check.loaded(A + "make shared/;");
        x.copySpace(0, true);
        x.mount(1, 1, 0);
        x.mount(0, 1, 1);
        Check.same("another volume", x.unmount(3), 1);
        Check.same("stays", x.mountOn(1, 1), 2);
        x.bind(0, 1, 0, 1);
        Check.same("another top", x.unmount(4), 1);
        Check.same("stays", x.mountOn(1, 1), 2);
        x.mount(0, 1, 0);
        Check.same("the same volume and top, of whatever group", x.unmount(5), 2);
        Check.same("is gone", x.mountOn(1, 1), -1);
        x.mount(0, 1, 1);
        // 6 on 0 and 7 on 1
        x.mount(7, 2, 1);
        Check.same("one with a mount on it", x.unmount(6), 1);
        Check.same("stays", Check.mounts(x), "0 1 7 8");
        x.unmount(8);
        x.unmount(7);
        x.mount(0, 1, 1);
        x.copySpace(0, true);
        // 9 on 0 and 10 on 1; 12 on 11, both locked
        Check.same("a locked one", x.unmount(9), 2);
        Check.same("stays", Check.mounts(x), "0 1 11 12");
        x.mount(0, 1, 1);
        x.make(13, 3);
        x.make(14, 3);
        Check.same("a secret one", x.unmount(13), 2);
        Check.same("goes", Check.mounts(x), "0 1 11 12");
        x.mount(0, 1, 1);
        x.mount(0, 3, 1);
        Check.same("another place", x.unmount(15), 2);
        Check.same("stays", x.told(17, 4), 3);
    }

    private static void upAndDown() {
        MountSpaces x = Check.loaded(A + "make shared/;bind/>/b;");
        // 1, a follower of 0, is on b of 0; 2 is on b of 1.
        Check.same("bind(0, 0, 1, 1)", x.bind(0, 0, 1, 1), 1);
        Check.same("the mount on which it was goes, too", x.unmount(2), 2);
        Check.same("mounts", Check.mounts(x), "0");
        x = Check.loaded(A + "make shared/;bind/>/b;bind/>/d;");
        // 2 is on d of 0, 3 on d of 1; 0 to 3 follow one another, and b of 0 is taken by 1.
        Check.same("mount(2, 1, 1)", x.mount(2, 1, 1), 3);
        Check.same("mounts", Check.mounts(x), "0 1 2 3 4 5 6");
        Check.same("of another volume than 1, which stays", x.unmount(5), 3);
        Check.same("mounts", Check.mounts(x), "0 1 2 3");
        Check.same("mount(2, 1, 0)", x.mount(2, 1, 0), 3);
        // 1, on b of 0, is like those, but 3 is on d of it.
        Check.same("BUSY ones stay", x.unmount(7), 3);
        Check.same("mounts", Check.mounts(x), "0 1 2 3");
    }

    private static void followersBefore() {
        MountSpaces x = Check.loaded(A + "make shared/;");
        x.bind(0, 0, 0, 1);
        x.bind(0, 0, 0, 3);
        // 1 on b of 0; 2 on d of 0, 3 on d of 1: all of the group 1.
        x.make(0, 2);
        x.make(2, 2);
        x.make(2, 1);
        x.copySpace(0, true);
        // 0 and 2 are slaves of the group 1, of 1 and 3; 2 has the group 2.
        x.mount(2, 1, 1);
        long before = x.count(2);
        Check.same("from 2, which 6 follows", x.unmount(8), 2);
        Check.same("mounts", x.count(2), before - 2);
        Check.same("from 1, which 0 follows, and 3", x.unmount(3), 2);
        Check.same("mounts", Check.mounts(x), "0 1 4 5 6 7");
    }

    private static void refusals() {
        MountSpaces x = Check.loaded(A + "make shared/;mount u/b;mount u/b;");
        x.copySpace(0, true);
        // 3 to 5 are the locked copies.
        long before = x.checksum();
        Check.same("LOCKED", x.unmount(5), -3);
        Check.same("LOCKED before ROOT", x.unmount(3), -3);
        Check.same("LOCKED before BUSY", x.unmount(4), -3);
        Check.same("ROOT", x.unmount(0), -4);
        Check.same("BUSY", x.unmount(1), -5);
        Check.same("nothing changes", x.checksum(), before);
        x.unmount(2);
        x.unmount(1);
        Check.same("ROOT with nothing on it", x.unmount(0), -4);
        Check.same("what is locked stays", Check.mounts(x), "0 3 4 5");
    }

    private static void wrong() {
        MountSpaces x = Check.loaded(A + "mount u/b;");
        for (int mount : new int[] {-1, 2, 40, Integer.MAX_VALUE, Integer.MIN_VALUE}) {
            Check.raises("unmount(" + mount + ")", NoSuchElementException.class,
                () -> x.unmount(mount));
        }
        x.unmount(1);
        Check.raises("unmount(1) again", NoSuchElementException.class, () -> x.unmount(1));
        Check.same("the load and one unmount", x.undo(), 1);
    }
}
