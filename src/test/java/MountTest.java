import java.util.NoSuchElementException;

/** Promise 18: mounting a volume, its copies and their groups, the refusals. */
public final class MountTest {
    private static final String A = "spaces;volume a(b(c),d);volume u(v);root a;";

    private MountTest() {
    }

    public static void main(String[] args) {
        unshared();
        inOneGroup();
        onSlaves();
        alongChain();
        groupsInOrder();
        groupOfNoCopy();
        places();
        taken();
        full();
        wrong();
        Check.end("MountTest");
    }

    private static void unshared() {
        MountSpaces x = Check.loaded(A);
        Check.same("mount(0, 1, 1)", x.mount(0, 1, 1), 1);
        Check.mount(x, 1, 0, 1, 0, 0, 1, 0, 0, 0, 0);
        Check.same("mount(1, 0, 0)", x.mount(1, 0, 0), 1);
        Check.mount(x, 2, 0, 0, 0, 1, 0, 0, 0, 0, 0);
        Check.same("no group was used", x.count(8), 0);
        x.copySpace(0, true);
        Check.same("mount(4, 1, 1)", x.mount(4, 1, 1), 1);
        Check.mount(x, 6, 1, 1, 0, 4, 1, 0, 0, 0, 0);
    }

    private static void inOneGroup() {
        MountSpaces x = Check.loaded(A + "make shared/;");
        Check.same("shared, alone", x.mount(0, 3, 1), 1);
        Check.mount(x, 1, 0, 1, 0, 0, 3, 2, 0, 0, 0);
        x.copySpace(0, false);
        Check.same("two in the group", x.mount(2, 1, 1), 2);
        Check.mount(x, 4, 1, 1, 0, 2, 1, 3, 0, 0, 0);
        Check.mount(x, 5, 0, 1, 0, 0, 1, 3, 0, 0, 0);
        x.make(2, 3);
        Check.same("a secret one receives nothing", x.mount(0, 2, 1), 1);
    }

    private static void onSlaves() {
        MountSpaces x = Check.loaded(A + "make shared/;");
        x.copySpace(0, true);
        x.copySpace(0, false);
        x.make(2, 2);
        // 0 has the group 1; 1, locked, and 2 have it as their master.
        Check.same("slaves receive", x.mount(0, 1, 1), 3);
        Check.mount(x, 3, 0, 1, 0, 0, 1, 2, 0, 0, 0);
        Check.mount(x, 4, 1, 1, 0, 1, 1, 0, 2, 0, 0);
        Check.mount(x, 5, 2, 1, 0, 2, 1, 0, 2, 0, 0);
        Check.same("and send nothing", x.mount(1, 3, 1), 1);
        Check.mount(x, 6, 1, 1, 0, 1, 3, 0, 0, 0, 0);
    }

    private static void alongChain() {
        MountSpaces x = Check.loaded(A + "make shared/;");
        x.copySpace(0, false);
        x.make(1, 2);
        x.make(1, 1);
        x.copySpace(1, true);
        x.copySpace(1, false);
        // 0 group 1; 1 group 2 master 1; 2 master 2; 3 group 2 master 1.
        Check.same("all", x.mount(0, 1, 1), 4);
        Check.mount(x, 4, 0, 1, 0, 0, 1, 3, 0, 0, 0);
        Check.mount(x, 5, 1, 1, 0, 1, 1, 4, 3, 0, 0);
        Check.mount(x, 6, 2, 1, 0, 2, 1, 0, 4, 0, 0);
        Check.mount(x, 7, 3, 1, 0, 3, 1, 4, 3, 0, 0);
        Check.same("without the first", x.mount(3, 3, 1), 3);
        Check.mount(x, 8, 3, 1, 0, 3, 3, 5, 0, 0, 0);
        Check.mount(x, 9, 1, 1, 0, 1, 3, 5, 0, 0, 0);
        Check.mount(x, 10, 2, 1, 0, 2, 3, 0, 5, 0, 0);
        Check.same("groups used", x.count(8), 5);
    }

    private static void groupsInOrder() {
        MountSpaces x = Check.loaded(A + "make shared/;");
        x.copySpace(0, false);
        x.copySpace(0, false);
        x.make(1, 2);
        x.make(2, 2);
        x.make(2, 1);
        x.make(1, 1);
        // 0 group 1; 1 group 3 and 2 group 2, both with the master 1.
        Check.same("mount(0, 1, 1)", x.mount(0, 1, 1), 3);
        Check.mount(x, 3, 0, 1, 0, 0, 1, 4, 0, 0, 0);
        Check.mount(x, 4, 1, 1, 0, 1, 1, 6, 4, 0, 0);
        Check.mount(x, 5, 2, 1, 0, 2, 1, 5, 4, 0, 0);
    }

    private static void groupOfNoCopy() {
        MountSpaces x = Check.loaded(A + "make shared/;bind/b>/d;make slave/d;make shared/d;");
        // 1, from b, has the group 2 and the master 1; the root is not in it.
        Check.same("mount(0, 0, 1)", x.mount(0, 0, 1), 1);
        Check.same("a group for each old group", x.count(8), 4);
        x.make(0, 2);
        Check.same("the next group", x.make(0, 1), 5);
    }

    private static void places() {
        MountSpaces x = Check.loaded(A + "make shared/;bind/b>/d;");
        x.copySpace(0, false);
        // 0 and 2 are roots; 1 and 3 are from b on d of them; all have the group 1.
        x.make(3, 0);
        x.mount(3, 2, 1);
        x.make(3, 3);
        Check.same("one that is in no group is left out", x.mount(1, 2, 1), 3);
        Check.same("on c of 1", x.mountOn(1, 2), 5);
        Check.same("on c of 0", x.mountOn(0, 2), 6);
        Check.same("on c of 2", x.mountOn(2, 2), 7);
        Check.same("on c of 3, as before", x.mountOn(3, 2), 4);
        x = Check.loaded(A + "make shared/;bind/b>/d;");
        x.copySpace(0, true);
        x.mount(2, 1, 0);
        // 2 and 3 are slaves of 0 and 1; 4 is on b of 2.
        Check.same("what has a mount there gets none", x.mount(0, 1, 1), 3);
        Check.same("on b of 1", x.mountOn(1, 1), 6);
        Check.same("on b of 2, as before", x.mountOn(2, 1), 4);
        Check.same("on b of 3", x.mountOn(3, 1), 7);
    }

    private static void taken() {
        MountSpaces x = Check.loaded(A + "make shared/;mount u/b;");
        Check.same("TAKEN", x.mount(0, 1, 1), -1);
        Check.same("no group was used for it", x.count(8), 2);
        x.copySpace(0, false);
        x.mount(2, 3, 1);
        Check.same("TAKEN by a copy", x.mount(0, 3, 1), -1);
        Check.same("nor is anything made", x.count(7), 6);
    }

    private static void full() {
        MountSpaces x = Check.loaded(A);
        for (int mount = 1; mount < 40; mount++) {
            Check.same("mount " + mount, x.mount(mount - 1, 0, 0), 1);
        }
        long before = x.checksum();
        Check.same("the 41st", x.mount(39, 0, 0), -8);
        Check.same("nothing changes", x.checksum(), before);
        Check.same("TAKEN comes first", x.mount(0, 0, 0), -1);
        x.unmount(39);
        Check.same("mount again", x.mount(38, 0, 0), 1);
        Check.same("a new number", x.mountAt(39), 40);
        fullWithCopies();
    }

    private static void fullWithCopies() {
        MountSpaces x = Check.loaded(A + "make shared/;" + "mount u/b;".repeat(18));
        x.copySpace(0, false);
        Check.same("19 mounts twice", x.count(2), 38);
        Check.same("two more are just 40", x.mount(0, 3, 1), 2);
        x.undo();
        x.make(18, 0);
        Check.same("the 39th", x.mount(18, 1, 1), 1);
        long before = x.checksum();
        Check.same("two more would be 41", x.mount(0, 3, 1), -8);
        Check.same("nothing changes", x.checksum(), before);
        Check.same("the 40th", x.mount(18, 0, 1), 1);
    }

    private static void wrong() {
        MountSpaces x = Check.loaded(A + "bind/b>/d;");
        for (int mount : new int[] {-1, 2, 40, Integer.MAX_VALUE, Integer.MIN_VALUE}) {
            Check.raises("mount(" + mount + ", 0, 9)", NoSuchElementException.class,
                () -> x.mount(mount, 0, 9));
        }
        for (int place : new int[] {-1, 0, 3, 4, 12, Integer.MAX_VALUE, Integer.MIN_VALUE}) {
            Check.raises("mount(1, " + place + ", 9)", NoSuchElementException.class,
                () -> x.mount(1, place, 9));
        }
        for (int volume : new int[] {-1, 2, 4, Integer.MAX_VALUE, Integer.MIN_VALUE}) {
            Check.raises("mount(0, 1, " + volume + ")", IndexOutOfBoundsException.class,
                () -> x.mount(0, 1, volume));
            Check.raises("mount(0, 3, " + volume + ")", IndexOutOfBoundsException.class,
                () -> x.mount(0, 3, volume));
        }
        Check.same("nothing was made", x.count(7), 2);
        Check.same("nor changed", x.undo(), 0);
    }
}
