import java.util.NoSuchElementException;

/** Promises 16 and 17: the text of a path to the place of a mount. */
public final class PathTest {
    private PathTest() {
    }

    public static void main(String[] args) {
        paths();
        hidden();
        bytes();
        longest();
        Check.end("PathTest");
    }

    private static void paths() {
        MountSpaces x = Check.loaded("spaces;volume a(bin(zcz),dev);volume u(abcdef(x));root a;"
            + "bind/bin>/dev;mount u/dev/zcz;mount a/dev/zcz/abcdef/x;mount u/bin;mount u/bin;");
        // 1 from bin on dev, 2 u on zcz of 1, 3 a on x of 2, 4 u on bin of 0, 5 u on 4.
        Check.same("path(0)", Check.path(x, 0), "/");
        Check.same("path(1)", Check.path(x, 1), "/dev");
        Check.same("path(2)", Check.path(x, 2), "/dev/zcz");
        Check.same("path(3)", Check.path(x, 3), "/dev/zcz/abcdef/x");
        Check.same("path(4)", Check.path(x, 4), "/bin");
        Check.same("path(5), with nothing from its own mount", Check.path(x, 5), "/bin");
        x.mount(1, 1, 1);
        Check.same("path(6), on the top of a bind", Check.path(x, 6), "/dev");
        x.copySpace(0, true);
        Check.same("path of a root", Check.path(x, 7), "/");
        Check.same("path of a copy", Check.path(x, 10), "/dev/zcz/abcdef/x");
    }

    private static void hidden() {
        MountSpaces x = Check.loaded("spaces;volume a(b(c),d);root a;mount a/b/c;mount a/;");
        Check.same("path(2), where nothing is written", Check.path(x, 2), "/");
        Check.same("path(1), which can't be seen", Check.path(x, 1), "/b/c");
        x.mount(2, 3, 0);
        x.mount(3, 0, 0);
        x.mount(4, 2, 0);
        Check.same("path(3)", Check.path(x, 3), "/d");
        Check.same("path(4)", Check.path(x, 4), "/d");
        Check.same("path(5)", Check.path(x, 5), "/d/b/c");
    }

    private static void bytes() {
        MountSpaces x = Check.loaded("spaces;volume a(b(c),d);root a;mount a/b/c;mount a/d;");
        Check.raises("no text yet", IndexOutOfBoundsException.class, () -> x.pathByte(0));
        Check.same("path(1)", x.path(1), 4);
        Check.same("pathByte(0)", x.pathByte(0), '/');
        Check.same("pathByte(1)", x.pathByte(1), 'b');
        Check.same("pathByte(2)", x.pathByte(2), '/');
        Check.same("pathByte(3)", x.pathByte(3), 'c');
        for (int index : new int[] {-1, 4, 5, 600, Integer.MAX_VALUE, Integer.MIN_VALUE}) {
            Check.raises("pathByte(" + index + ")", IndexOutOfBoundsException.class,
                () -> x.pathByte(index));
        }
        for (int mount : new int[] {-1, 3, 40, Integer.MAX_VALUE, Integer.MIN_VALUE}) {
            Check.raises("path(" + mount + ")", NoSuchElementException.class,
                () -> x.path(mount));
        }
        Check.same("the text is kept", x.pathByte(3), 'c');
        x.unmount(1);
        x.undo();
        Check.load(x, "spaces;volume a;root a;");
        Check.same("also by undo and load", x.pathByte(3), 'c');
        x.undo();
        Check.same("path(2)", x.path(2), 2);
        Check.same("pathByte(1) of it", x.pathByte(1), 'd');
        Check.raises("the text before is gone", IndexOutOfBoundsException.class,
            () -> x.pathByte(2));
    }

    private static void longest() {
        MountSpaces x = Check.loaded("spaces;volume a(aaaaaa(bbbbbb(cccccc(dddddd(zzzzzz)))));"
            + "root a;");
        String due = "/aaaaaa/bbbbbb/cccccc/dddddd/zzzzzz";
        for (int mount = 1; mount < 40; mount++) {
            Check.same("mount " + mount, x.mount(mount - 1, 5, 0), 1);
        }
        Check.same("path(10)", Check.path(x, 10), due.repeat(10));
        Check.same("its length", x.path(39), 39 * 35);
        Check.same("its last byte", x.pathByte(39 * 35 - 1), 'z');
    }
}
