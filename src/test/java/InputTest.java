/** Promises 2, 3 and 4: the input buffer, how load and look read and empty it, errorOffset. */
public final class InputTest {
    private static final String SETUP = "spaces;volume a(b);root a;";

    private InputTest() {
    }

    public static void main(String[] args) {
        append();
        bytes();
        lengths();
        errorOffset();
        Check.end("InputTest");
    }

    private static void append() {
        MountSpaces x = new MountSpaces();
        for (int n = 1; n <= 30; n++) {
            Check.same("append " + n, x.append(0x20202020, 0x20202020, 0x20202020, 0x20202020,
                0x20202020), 20 * n);
        }
        Check.same("append 31", x.append(1, 2, 3, 4, 5), -1);
        Check.same("append 32", x.append(1, 2, 3, 4, 5), -1);
        Check.raises("load(601)", IllegalArgumentException.class, () -> x.load(601));
        Check.same("load(600) of spaces", x.load(600), -12);
        Check.same("its end", x.errorOffset(), 600);
        Check.same("append to the emptied buffer", x.append(0, 0, 0, 0, 0), 20);
    }

    private static void bytes() {
        MountSpaces x = Check.loaded("spaces;volume a(bcde(fghi(jklm(nopq(r)))));root a;");
        // "/bcde/fghi/jklm/nopq" in five words: each byte at its place.
        x.append(0x2f626364, 0x652f6667, 0x68692f6a, 0x6b6c6d2f, 0x6e6f7071);
        Check.same("the bytes of five words", x.look(0, 20), 4);
        x.append(0x2f626364, 0x65202020, 0x20202020, 0x20202020, 0x20202020);
        Check.same("a second row", x.append(0x20202020, 0x20202020, 0x2f666768, 0x69202020,
            0x2020202f), 40);
        Check.same("ends in a slash", x.look(0, 40), -12);
        Check.same("at its length", x.errorOffset(), 40);
        for (int high : new int[] {0x80, 0xaf, 0xe1, 0xff, 0x00, 0x7f, 0x41, 0x09, 0x0a}) {
            x.append(0x2f000000 | high << 16, 0, 0, 0, 0);
            Check.same("byte " + high, x.look(0, 2), -12);
            Check.same("byte " + high + " at", x.errorOffset(), 1);
        }
        x.append(0x2f626364, 0x65ff0000, 0, 0, 0);
        Check.same("what is behind the length does not count", x.look(0, 5), 1);
    }

    private static void lengths() {
        MountSpaces x = new MountSpaces();
        Check.append(x, SETUP);
        for (int length : new int[] {-1, 41, 600, Integer.MAX_VALUE, Integer.MIN_VALUE}) {
            Check.raises("load(" + length + ")", IllegalArgumentException.class,
                () -> x.load(length));
            Check.raises("look(0, " + length + ")", IllegalArgumentException.class,
                () -> x.look(0, length));
        }
        Check.raises("look(1, 99)", IndexOutOfBoundsException.class, () -> x.look(1, 99));
        Check.raises("look(-1, 2)", IndexOutOfBoundsException.class, () -> x.look(-1, 2));
        Check.same("the buffer is unchanged", x.load(SETUP.length()), 1);
        Check.same("directories(0)", x.directories(0), 2);
        Check.raises("the buffer is empty", IllegalArgumentException.class, () -> x.load(1));
        Check.same("an empty text", x.load(0), -12);
        Check.append(x, SETUP + "mount x/;");
        Check.same("a text with an error", x.load(SETUP.length() + 9), -13);
        Check.raises("empty after an error", IllegalArgumentException.class, () -> x.load(1));
        Check.append(x, "/b/b");
        Check.same("a path with an error", x.look(0, 4), -13);
        Check.raises("empty after look", IllegalArgumentException.class, () -> x.look(0, 1));
        Check.append(x, "/b");
        Check.same("a good path", x.look(0, 2), 1);
        Check.same("empty after a good look", x.append(0, 0, 0, 0, 0), 20);
    }

    private static void errorOffset() {
        MountSpaces x = new MountSpaces();
        Check.same("load", Check.load(x, "spaces;x"), -12);
        Check.same("errorOffset of load", x.errorOffset(), 7);
        Check.raises("load(1)", IllegalArgumentException.class, () -> x.load(1));
        Check.raises("look(4, 0)", IndexOutOfBoundsException.class, () -> x.look(4, 0));
        Check.same("errorOffset after calls that threw", x.errorOffset(), 7);
        Check.same("look", Check.look(x, 0, "/"), 0);
        Check.same("errorOffset of a good look", x.errorOffset(), -1);
        Check.same("look", Check.look(x, 0, "  x"), -12);
        Check.same("errorOffset of look", x.errorOffset(), 2);
        x.mount(0, 0, 0);
        x.undo();
        x.checksum();
        Check.same("errorOffset after other calls", x.errorOffset(), 2);
        Check.same("load", Check.load(x, SETUP), 1);
        Check.same("errorOffset of a good load", x.errorOffset(), -1);
        Check.same("load", Check.load(x, ""), -12);
        Check.same("errorOffset of an empty text", x.errorOffset(), 0);
        x.undo();
        Check.same("errorOffset after undo", x.errorOffset(), 0);
    }
}
