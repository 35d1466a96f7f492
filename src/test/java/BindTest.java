import java.util.NoSuchElementException;

/** Promise 19: binding a part of a mount. */
public final class BindTest {
    private static final String A = "spaces;volume a(b(c),d);volume u(v(w));root a;";

    private BindTest() {
    }

    public static void main(String[] args) {
        parts();
        groups();
        slaves();
        followersBefore();
        refusals();
        full();
        wrong();
        Check.end("BindTest");
    }

    private static void parts() {
        MountSpaces x = Check.loaded(A + "mount u/b;");
        Check.same("bind(1, 1, 0, 3)", x.bind(1, 1, 0, 3), 1);
        Check.mount(x, 2, 0, 1, 1, 0, 3, 0, 0, 0, 0);
        Check.same("a part of a part", x.bind(2, 2, 2, 1), 1);
        Check.mount(x, 3, 0, 1, 2, 2, 1, 0, 0, 0, 0);
        Check.same("on itself", x.bind(0, 0, 0, 0), 1);
        Check.mount(x, 4, 0, 0, 0, 0, 0, 0, 0, 0, 0);
        x.copySpace(0, true);
        // 5 is a locked root now, 6 to 9 are on it.
        Check.same("a locked one", x.bind(6, 0, 5, 2), 1);
        Check.mount(x, 10, 1, 1, 0, 5, 2, 0, 0, 0, 0);
    }

    private static void groups() {
        MountSpaces x = Check.loaded(A + "mount u/b;make shared/b;bind/b>/d;");
        Check.same("its group is that of the source", x.told(2, 5), 1);
        x.make(0, 1);
        x.copySpace(0, false);
        // 0 and 3 have the group 2; 1, 2, 4 and 5 the group 1.
        Check.same("onto a shared one", x.bind(1, 1, 0, 2), 2);
        Check.mount(x, 6, 0, 1, 1, 0, 2, 1, 0, 0, 0);
        Check.mount(x, 7, 1, 1, 1, 3, 2, 1, 0, 0, 0);
        Check.same("no group was used", x.count(8), 2);
        x.make(1, 0);
        Check.same("of an unshared one", x.bind(1, 0, 0, 0), 2);
        Check.same("its new group", x.told(8, 5), 3);
        Check.same("that of the copy", x.told(9, 5), 3);
        Check.same("the source stays", x.told(1, 5), 0);
    }

    private static void slaves() {
        MountSpaces x = Check.loaded(A + "mount u/b;make shared/b;bind/b>/d;make slave/d;");
        // 2 has the master 1.
        Check.same("a slave", x.bind(2, 0, 0, 2), 1);
        Check.mount(x, 3, 0, 1, 0, 0, 2, 0, 1, 0, 0);
        x.make(0, 1);
        x.copySpace(0, true);
        // 4 has the master 2; 5, 6 and 7 the master 1.
        Check.same("a slave onto a shared one", x.bind(2, 1, 0, 0), 2);
        Check.mount(x, 8, 0, 1, 1, 0, 0, 3, 1, 0, 0);
        Check.mount(x, 9, 1, 1, 1, 4, 0, 0, 3, 0, 0);
        x.copySpace(0, false);
        x.unmount(8);
        Check.same("the master goes with the group", x.bind(2, 2, 0, 0), 3);
        for (int i = 0; i < x.count(2); i++) {
            int mount = x.mountAt(i);
            if (x.told(mount, 2) == 2) {
                boolean isSlave = x.told(mount, 0) == 1;
                Check.same("group of " + mount, x.told(mount, 5), isSlave ? 0 : 4);
                Check.same("master of " + mount, x.told(mount, 6), isSlave ? 4 : 1);
            }
        }
    }

    private static void followersBefore() {
        MountSpaces x = Check.loaded(A + "make shared/;");
        Check.same("a part of itself", x.bind(0, 1, 0, 3), 1);
        Check.mount(x, 1, 0, 0, 1, 0, 3, 1, 0, 0, 0);
        Check.same("the second one is a follower", x.bind(0, 1, 0, 2), 2);
        Check.mount(x, 2, 0, 0, 1, 0, 2, 1, 0, 0, 0);
        Check.mount(x, 3, 0, 0, 1, 1, 2, 1, 0, 0, 0);
        Check.same("and so are all of them", x.wouldMake(0, 1), 4);
    }

    private static void refusals() {
        MountSpaces x = Check.loaded(A + "mount u/b;make secret/b;");
        x.copySpace(0, false);
        long before = x.checksum();
        Check.same("TAKEN before SECRET", x.bind(1, 0, 0, 1), -1);
        Check.same("TAKEN before ELSEWHERE", x.bind(0, 0, 2, 1), -1);
        Check.same("SECRET", x.bind(1, 1, 0, 3), -2);
        Check.same("SECRET before ELSEWHERE", x.bind(1, 1, 2, 3), -2);
        Check.same("ELSEWHERE", x.bind(0, 1, 2, 3), -7);
        Check.same("ELSEWHERE the other way", x.bind(2, 1, 0, 3), -7);
        Check.same("nothing changes", x.checksum(), before);
        Check.same("onto a secret one", x.bind(0, 1, 1, 2), 1);
    }

    private static void full() {
        MountSpaces x = Check.loaded(A + "mount a/b;".repeat(38));
        Check.same("the 40th", x.bind(0, 1, 0, 3), 1);
        long before = x.checksum();
        Check.same("FULL", x.bind(0, 1, 0, 2), -8);
        Check.same("nothing changes", x.checksum(), before);
        x.undo();
        x.undo();
        x.make(0, 1);
        Check.same("the 40th of a shared one", x.bind(0, 1, 0, 3), 1);
        x.undo();
        x.unmount(38);
        Check.same("the 39th", x.bind(0, 1, 0, 2), 1);
        Check.same("the 40th, as d is not in the other one", x.bind(0, 2, 0, 3), 1);
        x = Check.loaded(A + "make shared/;" + "mount u/b;".repeat(18));
        x.copySpace(0, false);
        x.make(18, 3);
        x.mount(18, 0, 0);
        Check.same("39 and 2", x.bind(0, 0, 0, 0), -8);
        Check.same("ELSEWHERE before FULL", x.bind(0, 0, 19, 0), -7);
        Check.same("SECRET before FULL", x.bind(18, 0, 0, 0), -2);
    }

    private static void wrong() {
        MountSpaces x = Check.loaded(A + "bind/b>/d;");
        for (int mount : new int[] {-1, 2, 40, Integer.MAX_VALUE, Integer.MIN_VALUE}) {
            Check.raises("bind(" + mount + ", 0, 0, 1)", NoSuchElementException.class,
                () -> x.bind(mount, 0, 0, 1));
            Check.raises("bind(0, 0, " + mount + ", 1)", NoSuchElementException.class,
                () -> x.bind(0, 0, mount, 1));
        }
        for (int place : new int[] {-1, 0, 3, 4, 12, Integer.MAX_VALUE, Integer.MIN_VALUE}) {
            Check.raises("bind(1, " + place + ", 0, 1)", NoSuchElementException.class,
                () -> x.bind(1, place, 0, 1));
            Check.raises("bind(0, 0, 1, " + place + ")", NoSuchElementException.class,
                () -> x.bind(0, 0, 1, place));
        }
        Check.same("nothing was made", x.count(7), 2);
        Check.same("nor changed", x.undo(), 0);
    }
}
