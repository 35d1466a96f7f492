import java.util.NoSuchElementException;

/** Promises 11, 12 and 13: where paths lead, and what can be seen. */
public final class LookTest {
    // 0 a, 1 a from b on d, 2 u on b, 3 u on 2, 4 a on c of 1.
    private static final String SETUP = "spaces;volume a(b(c),d(e));volume u(v(w));root a;"
        + "bind /b>/d;mount u/b;mount u/b;mount a/d/c;";

    private LookTest() {
    }

    public static void main(String[] args) {
        paths();
        errors();
        spaces();
        seen();
        Check.end("LookTest");
    }

    private static void paths() {
        MountSpaces x = Check.loaded(SETUP);
        Check.same("/", Check.look(x, 0, "/"), 0);
        Check.same("/b", Check.look(x, 0, "/b"), 300);
        Check.same("/b/v", Check.look(x, 0, "/b/v"), 301);
        Check.same("/b/v/w", Check.look(x, 0, "/b/v/w"), 302);
        Check.same("/d", Check.look(x, 0, "/d"), 101);
        Check.same("/d/c", Check.look(x, 0, "/d/c"), 400);
        Check.same("/d/c/b", Check.look(x, 0, "/d/c/b"), 401);
        Check.same("/d/c/d/e", Check.look(x, 0, "/d/c/d/e"), 404);
        Check.same("with spaces", Check.look(x, 0, "  /  d  /  c  "), 400);
        x.mount(0, 0, 1);
        Check.same("a mount on the beginning", Check.look(x, 0, "/"), 500);
        Check.same("hides what is below it", Check.look(x, 0, "/b"), -13);
        Check.same("/v/w", Check.look(x, 0, "/v/w"), 502);
        x.mount(5, 2, 0);
        x.mount(6, 0, 0);
        Check.same("one upon another", Check.look(x, 0, "/v/w/d"), 703);
        Check.same("all from the beginning", Check.look(x, 0, "/v/w"), 700);
    }

    private static void error(MountSpaces x, int code, String marked) {
        int at = marked.indexOf('^');
        int answer = Check.look(x, 0, marked.substring(0, at) + marked.substring(at + 1));
        Check.same("look " + marked, answer, code);
        Check.same("errorOffset of " + marked, x.errorOffset(), at);
    }

    private static void errors() {
        MountSpaces x = Check.loaded(SETUP);
        String[] syntax = {"^", "  ^", "^b", "^;", "/b/^", "/b/ ^", "/^/", "/^;", "/b^;", "/b ^d",
            "/b/^;", "/^bbbbbbb", "/b/^vvvvvvv", "/b^>/d", "/^>"};
        for (String text : syntax) {
            error(x, -12, text);
        }
        String[] unknown = {"/^x", "/^a", "/b/^c", "/d/^e", "/d/^b", "/b/v/w/^w", "/^bb", "/^x/y",
            "/ ^x ;", "/d/c/b/^b", "/^v;"};
        for (String text : unknown) {
            error(x, -13, text);
        }
        Check.same("a good one", Check.look(x, 0, "/d/c/b/c"), 402);
        Check.same("has no error", x.errorOffset(), -1);
    }

    private static void spaces() {
        MountSpaces x = Check.loaded(SETUP);
        x.copySpace(0, false);
        // 5 to 9 are the copies of 0 to 4.
        Check.same("/d/c in space 1", Check.look(x, 1, "/d/c"), 900);
        Check.same("/b/v in space 1", Check.look(x, 1, "/b/v"), 801);
        x.unmount(8);
        Check.same("/b/v without it", Check.look(x, 1, "/b/v"), 701);
        Check.same("/b/v in space 0", Check.look(x, 0, "/b/v"), 301);
        for (int space : new int[] {-1, 2, 4, Integer.MAX_VALUE, Integer.MIN_VALUE}) {
            Check.raises("look(" + space + ", 0)", IndexOutOfBoundsException.class,
                () -> x.look(space, 0));
            Check.raises("seen(" + space + ")", IndexOutOfBoundsException.class,
                () -> x.seen(space));
        }
        Check.same("look(1, 0)", x.look(1, 0), -12);
    }

    private static void seen() {
        MountSpaces x = Check.loaded(SETUP);
        // (0,0), (3,0) (3,1) (3,2), (1,1), (4,0) (4,1) (4,2) (4,3) (4,4)
        Check.same("seen(0)", x.seen(0), 10);
        boolean[][] due = {
            {true, false, false, false, false}, {false, true, false, false, false},
            {false, false, false}, {true, true, true}, {true, true, true, true, true}};
        for (int mount = 0; mount < due.length; mount++) {
            for (int directory = 0; directory < due[mount].length; directory++) {
                if (mount != 1 || directory == 1 || directory == 2) {
                    Check.same("isSeen(" + mount + ", " + directory + ")",
                        x.isSeen(mount, directory), due[mount][directory]);
                }
            }
        }
        for (int directory : new int[] {-1, 0, 3, 4, 5, 12, Integer.MAX_VALUE}) {
            Check.raises("isSeen(1, " + directory + ")", NoSuchElementException.class,
                () -> x.isSeen(1, directory));
        }
        for (int mount : new int[] {-1, 5, 40, Integer.MIN_VALUE}) {
            Check.raises("isSeen(" + mount + ", 0)", NoSuchElementException.class,
                () -> x.isSeen(mount, 0));
        }
        x.copySpace(0, true);
        x.mount(1, 1, 1);
        Check.same("seen(0) with u on /d", x.seen(0), 7);
        Check.same("a mount under one that is hidden", x.isSeen(4, 0), false);
        Check.same("seen(1)", x.seen(1), 10);
        Check.same("isSeen(9, 4)", x.isSeen(9, 4), true);
        x.mount(0, 0, 1);
        Check.same("seen(0) with u on /", x.seen(0), 3);
        Check.same("isSeen(0, 0)", x.isSeen(0, 0), false);
    }
}
