import java.util.function.Consumer;
import java.util.function.Supplier;
import java.util.function.ToIntFunction;

/** What the tests share: comparisons that are counted, and texts put into the input buffer. */
final class Check {
    private static final int BLANK = 0x20202020;

    private static int compared = 0;
    private static int wrong = 0;
    private static int cases = 0;
    private static int wrongCases = 0;
    private static String name = "";
    private static String chosen = "";

    private Check() {
    }

    static void same(String call, long got, long due) {
        compared++;
        if (got != due) {
            wrong++;
            System.out.println(name + call + " answered " + got + ", due is " + due);
        }
    }

    static void same(String call, boolean got, boolean due) {
        same(call, got ? 1 : 0, due ? 1 : 0);
    }

    static void same(String call, String got, String due) {
        compared++;
        if (!got.equals(due)) {
            wrong++;
            System.out.println(name + call + " answered \"" + got + "\", due is \"" + due + "\"");
        }
    }

    /** The call must throw an exception of just this class. */
    static void raises(String call, Class<?> due, Runnable body) {
        compared++;
        String got = "nothing";
        try {
            body.run();
        } catch (RuntimeException e) {
            got = e.getClass().getName();
        }
        if (!got.equals(due.getName())) {
            wrong++;
            System.out.println(name + call + " threw " + got + ", due is " + due.getName());
        }
    }

    /** Of the boundary cases only those are run whose names have the first argument in them. */
    static void choose(String[] args) {
        chosen = args.length > 0 ? args[0] : "";
    }

    /** A test of one boundary case: its name tells the promise and what the document says. */
    static void edge(String promise, Runnable body) {
        if (!promise.contains(chosen)) {
            return;
        }
        int before = wrong;
        name = promise + ": ";
        try {
            body.run();
        } catch (RuntimeException e) {
            wrong++;
            System.out.println(name + "ended by " + e);
        }
        name = "";
        cases++;
        wrongCases += wrong == before ? 0 : 1;
    }

    /** The call must be refused: it changes nothing, but it is a change that undo counts. */
    static void refused(String call, int due, Supplier<MountSpaces> maker,
            ToIntFunction<MountSpaces> body) {
        MountSpaces x = maker.get();
        long before = x.checksum();
        int offset = x.errorOffset();
        same(call, body.applyAsInt(x), due);
        same("checksum after " + call, x.checksum(), before);
        same("errorOffset after " + call, x.errorOffset(), offset);
        same("undo of " + call, x.undo(), Math.min(changes(maker.get()), 7));
        same("checksum after the undo of " + call, x.checksum(), before);
    }

    /** The call must throw: it changes nothing at all, and there is nothing more to undo. */
    static void thrown(String call, Class<?> due, Supplier<MountSpaces> maker,
            Consumer<MountSpaces> body) {
        MountSpaces x = maker.get();
        append(x, "/                   ");
        x.path(0);
        long before = x.checksum();
        int offset = x.errorOffset();
        raises(call, due, () -> body.accept(x));
        same("checksum after " + call, x.checksum(), before);
        same("errorOffset after " + call, x.errorOffset(), offset);
        same("the text of path after " + call, x.pathByte(0), '/');
        same("append after " + call, x.append(BLANK, BLANK, BLANK, BLANK, BLANK), 40);
        same("look after " + call, x.look(0, 40), look(maker.get(), 0, "/"));
        same("what can be undone after " + call, changes(x), changes(maker.get()));
    }

    /** How many changes can be undone; one of them is undone by this. */
    static int changes(MountSpaces x) {
        return x.undo() + 1;
    }

    /**
     * Ends the test with a line that .ci/run reads, and with exit code 1 if an answer was not the
     * one that is due. A program that has no boundary cases counts as one test.
     */
    static void end(String test) {
        int failed = wrong == 0 && compared != 0 ? 0 : Math.max(wrongCases, 1);
        int passed = Math.max(cases, 1) - failed;
        System.out.println(test + ": " + passed + " passed, " + failed + " failed, "
            + compared + " answers compared");
        if (failed != 0) {
            System.exit(1);
        }
    }

    /** Appends a text, filled up with zeros to a multiple of 20 bytes. */
    static void append(MountSpaces x, String text) {
        byte[] bytes = new byte[(text.length() + 19) / 20 * 20];
        for (int i = 0; i < text.length(); i++) {
            bytes[i] = (byte) text.charAt(i);
        }
        for (int i = 0; i < bytes.length; i += 20) {
            int length = x.append(word(bytes, i), word(bytes, i + 4), word(bytes, i + 8),
                word(bytes, i + 12), word(bytes, i + 16));
            if (length < 0) {
                throw new IllegalStateException("the text is too long: " + text);
            }
        }
    }

    static int word(byte[] bytes, int i) {
        return (bytes[i] & 255) << 24 | (bytes[i + 1] & 255) << 16 | (bytes[i + 2] & 255) << 8
            | bytes[i + 3] & 255;
    }

    static int load(MountSpaces x, String text) {
        append(x, text);
        return x.load(text.length());
    }

    static int look(MountSpaces x, int space, String path) {
        append(x, path);
        return x.look(space, path.length());
    }

    /** A new object that has this setup, which must be a good one. */
    static MountSpaces loaded(String text) {
        MountSpaces x = new MountSpaces();
        int answer = load(x, text);
        if (answer < 0) {
            throw new IllegalStateException("error " + answer + " at " + x.errorOffset() + " in "
                + text);
        }
        return x;
    }

    /** All that is told of a mount: space, volume, top, on, place, group, master, secret, locked. */
    static void mount(MountSpaces x, int mount, int... due) {
        for (int what = 0; what < 9; what++) {
            same("told(" + mount + ", " + what + ")", x.told(mount, what), due[what]);
        }
    }

    /** The numbers of the mounts that there are. */
    static String mounts(MountSpaces x) {
        StringBuilder text = new StringBuilder();
        for (int i = 0; i < x.count(2); i++) {
            text.append(i == 0 ? "" : " ").append(x.mountAt(i));
        }
        return text.toString();
    }

    static String path(MountSpaces x, int mount) {
        int length = x.path(mount);
        StringBuilder text = new StringBuilder();
        for (int i = 0; i < length; i++) {
            text.append((char) x.pathByte(i));
        }
        return text.toString();
    }
}
