/** The boundary cases of promises 2 and 4, and of the buffer and the lengths in 3 and 11. */
public final class InputEdgesTest {
    private static final int BLANK = 0x20202020;
    private static final String SETUP = "spaces;volume a(b(c),d);volume u;root a;";

    private InputEdgesTest() {
    }

    public static void main(String[] args) {
        Check.choose(args);
        Check.edge("Promise 2, appends 20 bytes, most significant first",
            InputEdgesTest::eachByte);
        Check.edge("Promise 2, bytes from 128 to 255 are appended, too",
            InputEdgesTest::highBytes);
        Check.edge("Promise 2, returns the new length up to 600", InputEdgesTest::lengths);
        Check.edge("Promise 2, -1 if it would exceed 600 bytes", InputEdgesTest::tooLong);
        Check.edge("Promise 2, the buffer is unchanged then", InputEdgesTest::unchanged);
        Check.edge("Promise 2, append is no change of the data", InputEdgesTest::noChange);
        Check.edge("Promise 3, the buffer is empty after a good load",
            InputEdgesTest::emptyAfterLoad);
        Check.edge("Promise 3, the buffer is empty after a load with an error",
            InputEdgesTest::emptyAfterBadLoad);
        Check.edge("Promise 3, an empty text has a SYNTAX_ERROR", InputEdgesTest::emptyText);
        Check.edge("Promise 3, only the first bytes are read", InputEdgesTest::firstBytes);
        Check.edge("Promise 3, all 600 bytes can be read", InputEdgesTest::allBytes);
        Check.edge("Promise 3, throws if length is negative or too great",
            InputEdgesTest::loadLengths);
        Check.edge("Promise 3, throws if length is greater than a full buffer",
            InputEdgesTest::fullLength);
        Check.edge("Promise 11, the buffer is empty after look", InputEdgesTest::emptyAfterLook);
        Check.edge("Promise 11, only the first bytes are read, up to all 600",
            InputEdgesTest::lookBytes);
        Check.edge("Promise 11, an empty text has a SYNTAX_ERROR", InputEdgesTest::emptyPath);
        Check.edge("Promise 11, throws if length is negative or too great",
            InputEdgesTest::lookLengths);
        Check.edge("Promise 11, no such space, which comes before the length",
            InputEdgesTest::lookSpaces);
        Check.edge("Promise 4, -1 if there was no such call", InputEdgesTest::noError);
        Check.edge("Promise 4, the latest call of load or look", InputEdgesTest::latestError);
        Check.edge("Promise 4, -1 if the latest call found none", InputEdgesTest::goodCall);
        Check.edge("Promise 4, a call that threw does not count", InputEdgesTest::threw);
        Check.edge("Promise 4, other calls do not count", InputEdgesTest::otherCalls);
        Check.edge("Promise 4, from offset 0 to the length", InputEdgesTest::offsets);
        Check.end("InputEdgesTest");
    }

    private static MountSpaces loaded() {
        return Check.loaded(SETUP);
    }

    /** Appends blanks until the buffer has this length. */
    private static void fill(MountSpaces x, int from, int to) {
        for (int length = from + 20; length <= to; length += 20) {
            Check.same("append", x.append(BLANK, BLANK, BLANK, BLANK, BLANK), length);
        }
    }

    /** A text of 600 bytes: the setup behind blanks, its last semicolon at the last byte. */
    private static String longText(String setup) {
        return " ".repeat(600 - setup.length()) + setup;
    }

    private static void eachByte() {
        MountSpaces x = loaded();
        for (int at = 0; at < 20; at++) {
            byte[] bytes = new byte[20];
            for (int i = 0; i < 20; i++) {
                bytes[i] = (byte) (i == at ? 'q' : ' ');
            }
            x.append(Check.word(bytes, 0), Check.word(bytes, 4), Check.word(bytes, 8),
                Check.word(bytes, 12), Check.word(bytes, 16));
            Check.same("look with q at " + at, x.look(0, 20), -12);
            Check.same("errorOffset", x.errorOffset(), at);
        }
        x.append(0x2f622f63, BLANK, BLANK, BLANK, BLANK);
        Check.same("look of /b/c", x.look(0, 4), 2);
    }

    private static void highBytes() {
        MountSpaces x = loaded();
        for (int sign = 128; sign < 256; sign++) {
            x.append(0x2f200000 | sign << 8 | ' ', BLANK, BLANK, BLANK, BLANK);
            Check.same("look with byte " + sign, x.look(0, 20), -12);
            Check.same("errorOffset", x.errorOffset(), 2);
        }
        x.append(0xaf622f63, BLANK, BLANK, BLANK, BLANK);
        Check.same("look with a slash and 128 more", x.look(0, 20), -12);
        Check.same("errorOffset", x.errorOffset(), 0);
        x.append(0x2f62af63, BLANK, BLANK, BLANK, BLANK);
        Check.same("look with the second slash and 128 more", x.look(0, 20), -12);
        Check.same("errorOffset", x.errorOffset(), 2);
        x.append(-1, -1, -1, -1, -1);
        Check.same("words of -1 are 20 bytes, too", x.append(0, 0, 0, 0, 0), 40);
        Check.same("look of 255", x.look(0, 40), -12);
        Check.same("errorOffset of 255", x.errorOffset(), 0);
    }

    private static void lengths() {
        MountSpaces x = new MountSpaces();
        fill(x, 0, 600);
        Check.raises("601 bytes", IllegalArgumentException.class, () -> x.load(601));
        Check.same("600 bytes", x.load(600), -12);
    }

    private static void tooLong() {
        MountSpaces x = new MountSpaces();
        fill(x, 0, 580);
        Check.same("the 30th append", x.append(BLANK, BLANK, BLANK, BLANK, BLANK), 600);
        Check.same("the 31st append", x.append(BLANK, BLANK, BLANK, BLANK, BLANK), -1);
        Check.same("the 32nd append", x.append(BLANK, BLANK, BLANK, BLANK, BLANK), -1);
        x.look(0, 1);
        fill(x, 0, 600);
        Check.same("again full", x.append(BLANK, BLANK, BLANK, BLANK, BLANK), -1);
        x.load(600);
        fill(x, 0, 600);
        Check.same("full after load", x.append(BLANK, BLANK, BLANK, BLANK, BLANK), -1);
    }

    private static void unchanged() {
        MountSpaces x = new MountSpaces();
        Check.append(x, longText(SETUP));
        Check.same("append", x.append(0x2f2f2f2f, 0x2f2f2f2f, 0x2f2f2f2f, 0x2f2f2f2f, 0x2f2f2f2f),
            -1);
        Check.raises("601 bytes", IllegalArgumentException.class, () -> x.load(601));
        Check.raises("620 bytes", IllegalArgumentException.class, () -> x.load(620));
        Check.same("load", x.load(600), 1);
        Check.same("directories", x.directories(0), 4);
    }

    private static void noChange() {
        MountSpaces x = new MountSpaces();
        long before = x.checksum();
        fill(x, 0, 600);
        x.append(0, 0, 0, 0, 0);
        Check.same("checksum", x.checksum(), before);
        Check.same("errorOffset", x.errorOffset(), -1);
        Check.same("undo", x.undo(), -1);
    }

    private static void emptyAfterLoad() {
        MountSpaces x = new MountSpaces();
        Check.append(x, SETUP);
        fill(x, 40, 600);
        Check.same("load", x.load(40), 1);
        Check.raises("load(1)", IllegalArgumentException.class, () -> x.load(1));
        Check.raises("look(0, 1)", IllegalArgumentException.class, () -> x.look(0, 1));
        Check.same("append", x.append(0, 0, 0, 0, 0), 20);
    }

    private static void emptyAfterBadLoad() {
        for (String text : new String[] {"", "x", "spaces;volume a;root b;", SETUP + "make",
            "spaces;volume a;volume a;", SETUP + "make secret/;bind/>/b;",
            "spaces;volume a(b(c(d(e(f(g"}) {
            MountSpaces x = new MountSpaces();
            fill(x, 0, 20);
            x.load(0);
            Check.append(x, text);
            Check.same("load " + text, x.load(text.length()) < 0, true);
            Check.raises("load(1)", IllegalArgumentException.class, () -> x.load(1));
            Check.same("append", x.append(0, 0, 0, 0, 0), 20);
        }
    }

    private static void emptyText() {
        MountSpaces x = new MountSpaces();
        Check.same("load(0) of an empty buffer", x.load(0), -12);
        Check.same("errorOffset", x.errorOffset(), 0);
        Check.append(x, SETUP);
        Check.same("load(0) of a full one", x.load(0), -12);
        Check.same("errorOffset", x.errorOffset(), 0);
        Check.raises("it is empty now", IllegalArgumentException.class, () -> x.load(1));
        Check.same("nothing was loaded", x.count(0), 1);
        fill(x, 0, 20);
        Check.same("blanks alone", x.load(20), -12);
        Check.same("errorOffset at the length", x.errorOffset(), 20);
    }

    private static void firstBytes() {
        MountSpaces x = new MountSpaces();
        Check.append(x, SETUP);
        Check.append(x, "????????????????????");
        Check.same("load", x.load(SETUP.length()), 1);
        Check.append(x, SETUP);
        Check.same("one byte less", x.load(SETUP.length() - 1), -12);
        Check.same("errorOffset", x.errorOffset(), SETUP.length() - 1);
        Check.append(x, SETUP + "mount u/b;");
        Check.same("a statement less", x.load(SETUP.length()), 1);
        Check.append(x, SETUP + "mount u/dx;");
        Check.same("a name is cut off", x.load(SETUP.length() + 9), -12);
        Check.same("errorOffset", x.errorOffset(), SETUP.length() + 9);
        Check.append(x, SETUP);
        Check.append(x, "????????????????????");
        Check.same("one byte more", x.load(SETUP.length() + 1), -12);
        Check.same("errorOffset", x.errorOffset(), SETUP.length());
    }

    private static void allBytes() {
        MountSpaces x = new MountSpaces();
        Check.same("blanks in front", Check.load(x, longText(SETUP)), 1);
        Check.same("blanks behind", Check.load(x, SETUP + " ".repeat(600 - SETUP.length())), 1);
        String text = longText(SETUP).substring(1) + "?";
        Check.same("a wrong last byte", Check.load(x, text), -12);
        Check.same("errorOffset", x.errorOffset(), 599);
        text = longText(SETUP).substring(1) + "m";
        Check.same("a statement's first letter", Check.load(x, text), -12);
        Check.same("errorOffset", x.errorOffset(), 599);
        text = longText(SETUP).substring(4) + "make";
        Check.same("a statement without its end", Check.load(x, text), -12);
        Check.same("errorOffset", x.errorOffset(), 600);
        text = longText(SETUP + "make shared/b/c;");
        Check.same("a last statement", Check.load(x, text), 1);
        Check.same("is done", x.count(8), 1);
    }

    private static void loadLengths() {
        for (int length : new int[] {Integer.MIN_VALUE, -2, -1, 21, 22, 40, 600, 601,
            Integer.MAX_VALUE}) {
            Check.thrown("load(" + length + ")", IllegalArgumentException.class,
                InputEdgesTest::loaded, x -> x.load(length));
        }
        MountSpaces x = new MountSpaces();
        Check.raises("load(1) of an empty buffer", IllegalArgumentException.class,
            () -> x.load(1));
        Check.append(x, SETUP);
        Check.raises("load(-1)", IllegalArgumentException.class, () -> x.load(-1));
        Check.raises("load(41)", IllegalArgumentException.class, () -> x.load(41));
        Check.same("load(40), the buffer being unchanged", x.load(40), 1);
        Check.same("directories", x.directories(0), 4);
    }

    private static void fullLength() {
        MountSpaces x = new MountSpaces();
        fill(x, 0, 600);
        Check.raises("load(601)", IllegalArgumentException.class, () -> x.load(601));
        Check.raises("look(0, 601)", IllegalArgumentException.class, () -> x.look(0, 601));
        Check.raises("load(MAX)", IllegalArgumentException.class,
            () -> x.load(Integer.MAX_VALUE));
        Check.same("still full", x.append(0, 0, 0, 0, 0), -1);
        Check.same("look(0, 600)", x.look(0, 600), -12);
        Check.same("errorOffset", x.errorOffset(), 600);
    }

    private static void emptyAfterLook() {
        MountSpaces x = loaded();
        for (String text : new String[] {"/b", "/", "/x", "b", "/b/"}) {
            fill(x, 0, 20);
            x.look(0, 0);
            Check.append(x, text);
            x.look(0, text.length());
            Check.raises("look(0, 1) after " + text, IllegalArgumentException.class,
                () -> x.look(0, 1));
            Check.raises("load(1) after " + text, IllegalArgumentException.class,
                () -> x.load(1));
            Check.same("append after " + text, x.append(0, 0, 0, 0, 0), 20);
            x.look(0, 20);
        }
    }

    private static void lookBytes() {
        MountSpaces x = loaded();
        Check.append(x, "/b/c????????????????????????????????????");
        Check.same("look of /b/c", x.look(0, 4), 2);
        Check.append(x, "/b/c");
        Check.same("look of /b/", x.look(0, 3), -12);
        Check.same("errorOffset at the length", x.errorOffset(), 3);
        Check.append(x, "/b/c");
        Check.same("look of /b", x.look(0, 2), 1);
        Check.append(x, " ".repeat(596) + "/b/c");
        Check.same("a path at the end of 600 bytes", x.look(0, 600), 2);
        Check.append(x, "/b/c" + " ".repeat(596));
        Check.same("a path in front of 596 blanks", x.look(0, 600), 2);
        Check.append(x, "/b" + " ".repeat(597) + "c");
        Check.same("a wrong last byte", x.look(0, 600), -12);
        Check.same("errorOffset", x.errorOffset(), 599);
    }

    private static void emptyPath() {
        MountSpaces x = loaded();
        Check.same("look(0, 0) of an empty buffer", x.look(0, 0), -12);
        Check.same("errorOffset", x.errorOffset(), 0);
        Check.append(x, "/b");
        Check.same("look(0, 0) of a path", x.look(0, 0), -12);
        Check.same("errorOffset", x.errorOffset(), 0);
        Check.append(x, "     ");
        Check.same("blanks alone", x.look(0, 3), -12);
        Check.same("errorOffset at the length", x.errorOffset(), 3);
    }

    private static void lookLengths() {
        for (int length : new int[] {Integer.MIN_VALUE, -1, 21, 600, 601, Integer.MAX_VALUE}) {
            Check.thrown("look(0, " + length + ")", IllegalArgumentException.class,
                InputEdgesTest::loaded, x -> x.look(0, length));
        }
        MountSpaces x = loaded();
        Check.raises("look(0, 1) of an empty buffer", IllegalArgumentException.class,
            () -> x.look(0, 1));
        Check.append(x, "/b/c                ");
        Check.same("look(0, 20) of 20 bytes", x.look(0, 20), 2);
    }

    private static void lookSpaces() {
        for (int space : new int[] {Integer.MIN_VALUE, -1, 1, 3, 4, Integer.MAX_VALUE}) {
            for (int length : new int[] {-1, 0, 20, 21}) {
                Check.thrown("look(" + space + ", " + length + ")",
                    IndexOutOfBoundsException.class, InputEdgesTest::loaded,
                    x -> x.look(space, length));
            }
        }
        MountSpaces x = loaded();
        x.copySpace(0, false);
        x.copySpace(0, false);
        x.copySpace(0, false);
        Check.same("look into the last space", Check.look(x, 3, "/b"), 301);
        Check.raises("look behind it", IndexOutOfBoundsException.class, () -> x.look(4, 0));
    }

    private static void noError() {
        MountSpaces x = new MountSpaces();
        Check.same("of a new object", x.errorOffset(), -1);
        x.append(0, 0, 0, 0, 0);
        Check.raises("load(21)", IllegalArgumentException.class, () -> x.load(21));
        Check.raises("look(1, 0)", IndexOutOfBoundsException.class, () -> x.look(1, 0));
        Check.same("after calls that threw", x.errorOffset(), -1);
    }

    private static void latestError() {
        MountSpaces x = new MountSpaces();
        Check.load(x, "spaces;?");
        Check.same("of load", x.errorOffset(), 7);
        Check.same("asked again", x.errorOffset(), 7);
        Check.look(x, 0, "/ ?");
        Check.same("of look behind it", x.errorOffset(), 2);
        Check.load(x, "spaces");
        Check.same("of load again", x.errorOffset(), 6);
    }

    private static void goodCall() {
        MountSpaces x = new MountSpaces();
        Check.load(x, "?");
        Check.load(x, SETUP);
        Check.same("after a good load", x.errorOffset(), -1);
        Check.look(x, 0, "?");
        Check.same("after a bad look", x.errorOffset(), 0);
        Check.look(x, 0, "/");
        Check.same("after a good look", x.errorOffset(), -1);
        Check.look(x, 0, "/?");
        Check.load(x, SETUP);
        Check.same("after a good load again", x.errorOffset(), -1);
    }

    private static void threw() {
        MountSpaces x = new MountSpaces();
        Check.load(x, "spaces;?");
        Check.raises("load(1)", IllegalArgumentException.class, () -> x.load(1));
        Check.raises("look(0, -1)", IllegalArgumentException.class, () -> x.look(0, -1));
        Check.raises("look(-1, 0)", IndexOutOfBoundsException.class, () -> x.look(-1, 0));
        Check.same("after calls that threw", x.errorOffset(), 7);
    }

    private static void otherCalls() {
        MountSpaces x = loaded();
        Check.look(x, 0, "/b/?");
        x.mount(0, 0, 0);
        x.mount(0, 0, 0);
        x.path(0);
        x.copySpace(0, true);
        x.dropSpace();
        x.undo();
        x.undo();
        x.append(0, 0, 0, 0, 0);
        x.checksum();
        Check.same("after other calls", x.errorOffset(), 3);
    }

    private static void offsets() {
        MountSpaces x = loaded();
        Check.load(x, "?");
        Check.same("the first byte", x.errorOffset(), 0);
        Check.load(x, "  spaces;volume a  ");
        Check.same("the end, behind blanks", x.errorOffset(), 19);
        Check.append(x, " ".repeat(600));
        x.load(600);
        Check.same("the end of 600 bytes", x.errorOffset(), 600);
        Check.look(x, 0, "/b/x/y");
        Check.same("a name", x.errorOffset(), 3);
    }
}
