/** Promises 23 and 24: copying a space and dropping the last one. */
public final class SpaceTest {
    private static final String A = "spaces;volume a(b(c),d);volume u(v);root a;";

    private SpaceTest() {
    }

    public static void main(String[] args) {
        copies();
        lockedCopies();
        placesOfCopies();
        full();
        drop();
        wrong();
        Check.end("SpaceTest");
    }

    private static MountSpaces loaded() {
        // 0 group 1; 1 group 2 on b; 2 from b on d, group 1; 3 slave of 2 on c of 2; 4 secret.
        MountSpaces x = Check.loaded(A + "mount u/b;bind/b>/d;mount a/d/v;make shared/;"
            + "make shared/b;make secret/d/v;");
        x.bind(1, 1, 0, 2);
        x.make(4, 2);
        return x;
    }

    private static void copies() {
        MountSpaces x = loaded();
        Check.same("copySpace(0, false)", x.copySpace(0, false), 1);
        Check.mount(x, 4, 0, 1, 1, 0, 2, 0, 2, 0, 0);
        Check.mount(x, 5, 1, 0, 0, -1, -1, 1, 0, 0, 0);
        Check.mount(x, 6, 1, 1, 0, 5, 1, 2, 0, 0, 0);
        Check.mount(x, 7, 1, 1, 0, 5, 3, 0, 0, 0, 0);
        Check.mount(x, 8, 1, 0, 0, 7, 1, 0, 0, 1, 0);
        Check.mount(x, 9, 1, 1, 1, 5, 2, 0, 2, 0, 0);
        Check.same("spaces", x.count(1), 2);
        Check.same("mounts", x.count(2), 10);
        Check.same("groups used", x.count(8), 2);
        Check.same("another copy", x.copySpace(1, false), 2);
        Check.mount(x, 11, 2, 1, 0, 10, 1, 2, 0, 0, 0);
    }

    private static void lockedCopies() {
        MountSpaces x = loaded();
        Check.same("copySpace(0, true)", x.copySpace(0, true), 1);
        Check.mount(x, 5, 1, 0, 0, -1, -1, 0, 1, 0, 1);
        Check.mount(x, 6, 1, 1, 0, 5, 1, 0, 2, 0, 1);
        Check.mount(x, 7, 1, 1, 0, 5, 3, 0, 0, 0, 1);
        Check.mount(x, 8, 1, 0, 0, 7, 1, 0, 0, 1, 1);
        Check.mount(x, 9, 1, 1, 1, 5, 2, 0, 2, 0, 1);
        Check.mount(x, 0, 0, 0, 0, -1, -1, 1, 0, 0, 0);
        x.make(9, 1);
        // 9 has the group 3 and the master 2.
        Check.same("a copy of the locked one", x.copySpace(1, false), 2);
        Check.mount(x, 10, 2, 0, 0, -1, -1, 0, 1, 0, 1);
        Check.mount(x, 14, 2, 1, 1, 10, 2, 3, 2, 0, 1);
        Check.same("a locked copy of it", x.copySpace(1, true), 3);
        Check.mount(x, 15, 3, 0, 0, -1, -1, 0, 1, 0, 1);
        Check.mount(x, 19, 3, 1, 1, 15, 2, 0, 3, 0, 1);
    }

    private static void placesOfCopies() {
        MountSpaces x = Check.loaded(A + "mount u/b;mount a/d;mount u/;");
        x.unmount(3);
        x.move(1, 2, 1);
        x.mount(1, 0, 0);
        x.mount(0, 0, 1);
        x.unmount(5);
        // 1 is on b of 2, which has a greater number; 4 is on 1.
        Check.same("copySpace(0, false)", x.copySpace(0, false), 1);
        Check.mount(x, 6, 1, 0, 0, -1, -1, 0, 0, 0, 0);
        Check.mount(x, 7, 1, 1, 0, 8, 1, 0, 0, 0, 0);
        Check.mount(x, 8, 1, 0, 0, 6, 3, 0, 0, 0, 0);
        Check.mount(x, 9, 1, 0, 0, 7, 0, 0, 0, 0, 0);
        Check.same("seen(1)", x.seen(1), x.seen(0));
        Check.same("path", Check.path(x, 9), "/d/b");
    }

    private static void full() {
        MountSpaces x = Check.loaded(A + "mount u/b;".repeat(9));
        Check.same("20", x.copySpace(0, false), 1);
        Check.same("30", x.copySpace(0, true), 2);
        Check.same("40", x.copySpace(1, true), 3);
        long before = x.checksum();
        Check.same("a fifth space", x.copySpace(0, false), -8);
        Check.same("nothing changes", x.checksum(), before);
        x.dropSpace();
        x.mount(0, 3, 1);
        before = x.checksum();
        Check.same("42 mounts", x.copySpace(0, false), -8);
        Check.same("41 mounts", x.copySpace(0, true), -8);
        Check.same("nothing changes", x.checksum(), before);
        Check.same("10 more are 41", x.copySpace(1, true), -8);
        x.unmount(19);
        Check.same("11 more are 41", x.copySpace(0, true), -8);
        x.undo();
        x.undo();
        x.unmount(9);
        Check.same("10 more are 40", x.copySpace(1, true), 3);
        Check.same("the numbers go on", x.mountAt(39), 50);
        MountSpaces y = Check.loaded(A);
        for (int space = 1; space < 4; space++) {
            Check.same("space " + space, y.copySpace(0, false), space);
        }
        Check.same("FULL with four mounts", y.copySpace(3, false), -8);
    }

    private static void drop() {
        MountSpaces x = Check.loaded(A + "make shared/;mount u/b;");
        x.copySpace(0, false);
        x.copySpace(0, true);
        x.mount(0, 3, 1);
        // 0 1 6, 2 3 7, 4 5 8
        Check.same("dropSpace()", x.dropSpace(), 6);
        Check.same("mounts", Check.mounts(x), "0 1 2 3 6 7");
        Check.same("spaces", x.count(1), 2);
        Check.same("made so far", x.count(7), 9);
        Check.same("followers(0)", x.followers(0), 2);
        Check.raises("told(4, 0)", java.util.NoSuchElementException.class, () -> x.told(4, 0));
        Check.raises("seen(2)", IndexOutOfBoundsException.class, () -> x.seen(2));
        Check.same("a new space has its index", x.copySpace(1, false), 2);
        Check.same("but new mounts", Check.mounts(x), "0 1 2 3 6 7 9 10 11");
        Check.same("dropSpace()", x.dropSpace(), 6);
        Check.same("dropSpace()", x.dropSpace(), 3);
        Check.same("mounts", Check.mounts(x), "0 1 6");
        long before = x.checksum();
        Check.raises("the only one", IllegalStateException.class, x::dropSpace);
        Check.same("nothing changes", x.checksum(), before);
    }

    private static void wrong() {
        MountSpaces x = Check.loaded(A);
        x.copySpace(0, false);
        for (int space : new int[] {-1, 2, 4, Integer.MAX_VALUE, Integer.MIN_VALUE}) {
            Check.raises("copySpace(" + space + ", true)", IndexOutOfBoundsException.class,
                () -> x.copySpace(space, true));
        }
        x.copySpace(0, false);
        x.copySpace(0, false);
        Check.raises("with four spaces, too", IndexOutOfBoundsException.class,
            () -> x.copySpace(4, false));
        Check.same("the load and three copies", x.undo(), 3);
    }
}
