/** Promise 25: undoing the latest changes. */
public final class UndoTest {
    private static final String A = "spaces;volume a(b(c),d);volume u(v);root a;";

    private UndoTest() {
    }

    public static void main(String[] args) {
        eachKind();
        eight();
        noChanges();
        numbers();
        notAffected();
        Check.end("UndoTest");
    }

    /** Undoes the only change there is; the checksum must be that before it. */
    private static void undone(String change, MountSpaces x, long before) {
        Check.same("undo() of " + change, x.undo() >= 0, true);
        Check.same("checksum after undo() of " + change, x.checksum(), before);
    }

    private static void eachKind() {
        MountSpaces x = new MountSpaces();
        long before = x.checksum();
        Check.load(x, A + "make shared/;mount u/b;");
        Check.same("undo() of load", x.undo(), 0);
        Check.same("checksum after undo() of load", x.checksum(), before);
        Check.same("no name is left", Check.look(x, 0, "/b"), -13);
        Check.load(x, A + "make shared/;mount u/b;bind/b>/d;");
        x.copySpace(0, false);
        before = x.checksum();
        x.mount(0, 2, 1);
        undone("mount", x, before);
        x.bind(0, 1, 0, 2);
        undone("bind", x, before);
        x.unmount(1);
        undone("unmount", x, before);
        x.make(0, 3);
        undone("make", x, before);
        x.copySpace(1, true);
        undone("copySpace", x, before);
        x.dropSpace();
        undone("dropSpace", x, before);
        Check.load(x, "spaces;volume u(a,b);volume a;root a;");
        undone("another load", x, before);
        Check.same("the names are back", Check.look(x, 1, "/b/v"), 401);
        x.copySpace(0, true);
        before = x.checksum();
        x.dropSpace();
        x.copySpace(0, false);
        x.undo();
        undone("dropSpace, with the locked mounts", x, before);
        x.make(0, 0);
        before = x.checksum();
        x.move(1, 0, 0);
        Check.same("it was moved", x.told(1, 4), 0);
        undone("move", x, before);
        x.move(1, 0, 1);
        undone("a move that was refused", x, before);
    }

    private static void eight() {
        MountSpaces x = new MountSpaces();
        Check.load(x, A);
        long[] sums = new long[12];
        for (int n = 0; n < 12; n++) {
            sums[n] = x.checksum();
            x.mount(n, 0, 0);
        }
        for (int n = 11; n >= 4; n--) {
            Check.same("undo() back to " + n, x.undo(), n - 4);
            Check.same("checksum of " + n, x.checksum(), sums[n]);
        }
        Check.same("the fifth change is final", x.undo(), -1);
        Check.same("and stays", x.checksum(), sums[4]);
        for (int n = 0; n < 3; n++) {
            x.make(0, 1);
        }
        Check.same("three new ones", x.undo(), 2);
        Check.same("two", x.undo(), 1);
        for (int n = 0; n < 7; n++) {
            x.make(0, 0);
        }
        Check.same("eight", x.undo(), 7);
        x.make(0, 0);
        x.make(0, 0);
        Check.same("eight again, one is final", x.undo(), 7);
        for (int n = 6; n >= 0; n--) {
            Check.same("undo()", x.undo(), n);
        }
        Check.same("the first of the three is final", x.told(0, 5), 1);
        Check.same("no more", x.undo(), -1);
        Check.same("still", x.undo(), -1);
    }

    private static void noChanges() {
        MountSpaces x = new MountSpaces();
        x.append(1, 2, 3, 4, 5);
        x.load(20);
        Check.same("a load with an error", x.undo(), -1);
        x.checksum();
        x.path(0);
        x.wouldMake(0, 0);
        Check.look(x, 0, "/");
        Check.raises("mount", java.util.NoSuchElementException.class, () -> x.mount(7, 0, 0));
        Check.raises("copySpace", IndexOutOfBoundsException.class, () -> x.copySpace(1, true));
        Check.raises("dropSpace", IllegalStateException.class, x::dropSpace);
        Check.same("none of these is a change", x.undo(), -1);
        x.make(0, 0);
        Check.same("one that leaves all as it was is", x.undo(), 0);
        x.unmount(0);
        x.move(0, 0, 0);
        x.mount(0, 0, 0);
        x.mount(0, 0, 0);
        x.bind(0, 0, 0, 0);
        Check.same("also what is refused", x.undo(), 4);
        Check.same("its undoing changes nothing", x.count(2), 2);
        x.copySpace(0, false);
        x.copySpace(0, false);
        x.copySpace(0, false);
        x.copySpace(0, false);
        Check.same("also a space that is refused", x.undo(), 7);
        Check.same("spaces", x.count(1), 4);
    }

    private static void numbers() {
        MountSpaces x = Check.loaded(A + "make shared/;");
        x.mount(0, 1, 1);
        Check.same("made", x.count(7), 2);
        Check.same("groups", x.count(8), 2);
        x.undo();
        Check.same("made goes back", x.count(7), 1);
        Check.same("groups go back", x.count(8), 1);
        x.mount(0, 3, 1);
        Check.mount(x, 1, 0, 1, 0, 0, 3, 2, 0, 0, 0);
        x.unmount(1);
        x.mount(0, 3, 1);
        Check.same("a number is not used again", Check.mounts(x), "0 2");
        x.undo();
        x.undo();
        Check.same("but comes back", Check.mounts(x), "0 1");
        x.mount(0, 1, 1);
        Check.same("and so does the next", Check.mounts(x), "0 1 2");
        Check.same("with its group", x.told(2, 5), 3);
    }

    private static void notAffected() {
        MountSpaces x = Check.loaded(A + "mount u/b/c;");
        Check.same("path(1)", Check.path(x, 1), "/b/c");
        Check.load(x, "spaces;x");
        Check.append(x, "/b/c");
        x.undo();
        Check.same("errorOffset", x.errorOffset(), 7);
        Check.same("the text of path", x.pathByte(3), 'c');
        Check.same("the input buffer", x.look(0, 4), -13);
        Check.same("errorOffset of look", x.errorOffset(), 1);
        Check.same("undo() again", x.undo(), -1);
        Check.same("errorOffset after it", x.errorOffset(), 1);
    }
}
