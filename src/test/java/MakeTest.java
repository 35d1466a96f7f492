import java.util.NoSuchElementException;

/** Promise 22: the kinds of a mount. */
public final class MakeTest {
    private static final int PRIVATE = 0;
    private static final int SHARED = 1;
    private static final int SLAVE = 2;
    private static final int SECRET = 3;

    private MakeTest() {
    }

    public static void main(String[] args) {
        kinds();
        slaves();
        locked();
        wrong();
        Check.end("MakeTest");
    }

    private static MountSpaces loaded() {
        return Check.loaded("spaces;volume a(b);volume u;root a;mount u/b;");
    }

    /** Makes the mount one of the kind; its group, its master and whether it is secret are due. */
    private static void make(MountSpaces x, int mount, int kind, int group, int master,
            int secret) {
        String call = "make(" + mount + ", " + kind + ")";
        Check.same(call, x.make(mount, kind), group);
        Check.same("group after " + call, x.told(mount, 5), group);
        Check.same("master after " + call, x.told(mount, 6), master);
        Check.same("secret after " + call, x.told(mount, 7), secret);
    }

    private static void kinds() {
        MountSpaces x = loaded();
        make(x, 1, PRIVATE, 0, 0, 0);
        make(x, 1, SHARED, 1, 0, 0);
        make(x, 1, SHARED, 1, 0, 0);
        make(x, 0, SHARED, 2, 0, 0);
        make(x, 1, SECRET, 0, 0, 1);
        make(x, 1, SECRET, 0, 0, 1);
        make(x, 1, SHARED, 3, 0, 0);
        make(x, 1, PRIVATE, 0, 0, 0);
        make(x, 1, SECRET, 0, 0, 1);
        make(x, 1, PRIVATE, 0, 0, 0);
        make(x, 1, SECRET, 0, 0, 1);
        make(x, 1, SLAVE, 0, 0, 0);
        Check.same("groups used", x.count(8), 3);
        Check.same("shared", x.count(3), 1);
    }

    private static void slaves() {
        MountSpaces x = loaded();
        x.make(0, SHARED);
        make(x, 0, SLAVE, 0, 0, 0);
        make(x, 0, SHARED, 2, 0, 0);
        x.copySpace(0, false);
        x.copySpace(0, false);
        // 0, 2 and 4 have the group 2.
        make(x, 2, SLAVE, 0, 2, 0);
        make(x, 2, SLAVE, 0, 2, 0);
        make(x, 2, SHARED, 3, 2, 0);
        make(x, 2, SHARED, 3, 2, 0);
        make(x, 2, SLAVE, 0, 2, 0);
        make(x, 4, SLAVE, 0, 2, 0);
        // The group 2 is that of 0 alone: slaves do not have it.
        make(x, 0, SLAVE, 0, 0, 0);
        make(x, 4, SHARED, 4, 2, 0);
        x.copySpace(2, false);
        make(x, 4, SLAVE, 0, 4, 0);
        make(x, 6, SLAVE, 0, 2, 0);
        make(x, 2, SECRET, 0, 0, 1);
        make(x, 4, PRIVATE, 0, 0, 0);
        Check.same("with a master", x.count(4), 1);
    }

    private static void locked() {
        MountSpaces x = loaded();
        x.make(0, SHARED);
        x.copySpace(0, true);
        make(x, 2, SHARED, 2, 1, 0);
        make(x, 3, SECRET, 0, 0, 1);
        make(x, 3, PRIVATE, 0, 0, 0);
        Check.same("it stays locked", x.told(3, 8), 1);
        Check.same("and where it is", x.told(3, 3), 2);
    }

    private static void wrong() {
        MountSpaces x = loaded();
        for (int mount : new int[] {-1, 2, 40, Integer.MAX_VALUE, Integer.MIN_VALUE}) {
            Check.raises("make(" + mount + ", 4)", NoSuchElementException.class,
                () -> x.make(mount, 4));
        }
        for (int kind : new int[] {-1, 4, Integer.MAX_VALUE, Integer.MIN_VALUE}) {
            Check.raises("make(1, " + kind + ")", IllegalArgumentException.class,
                () -> x.make(1, kind));
        }
        Check.same("nothing changed", x.undo(), 0);
    }
}
