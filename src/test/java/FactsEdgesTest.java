import java.util.NoSuchElementException;
import java.util.function.IntConsumer;

/** The boundary cases of promises 1 and 5 to 17: what is told, seen and written. */
public final class FactsEdgesTest {
    private static final String A = "spaces;volume a(b(c),d,e);volume u(v(w));root a;";
    private static final int MIN = Integer.MIN_VALUE;
    private static final int MAX = Integer.MAX_VALUE;

    private FactsEdgesTest() {
    }

    public static void main(String[] args) {
        Check.choose(args);
        objects();
        facts();
        looks();
        followers();
        paths();
        Check.end("FactsEdgesTest");
    }

    private static void objects() {
        Check.edge("Promise 1, one volume, one space, one mount", FactsEdgesTest::newObject);
        Check.edge("Promise 1, an empty input buffer", FactsEdgesTest::newBuffer);
        Check.edge("Changes, before the first successful load", FactsEdgesTest::beforeLoad);
    }

    private static void facts() {
        Check.edge("Promise 5, what from 0 to 8", FactsEdgesTest::countRange);
        Check.edge("Promise 5, 3 to 6: none, one and all", FactsEdgesTest::countKinds);
        Check.edge("Promise 5, 7 counts also those that were removed", FactsEdgesTest::countMade);
        Check.edge("Promise 5, 8 is 0 if there was no group", FactsEdgesTest::countGroups);
        Check.edge("Promise 6, the first and the last volume", FactsEdgesTest::directories);
        Check.edge("Promise 7, the first and the last directory", FactsEdgesTest::outer);
        Check.edge("Promise 7, -1 for directory 0", FactsEdgesTest::outerOfRoot);
        Check.edge("Promise 8, what from 0 to 8", FactsEdgesTest::toldRange);
        Check.edge("Promise 8, -1 for a root", FactsEdgesTest::toldRoot);
        Check.edge("Promise 8, 0 for none, 1 if it is", FactsEdgesTest::toldNone);
        Check.edge("Promise 8, no such mount comes before what", FactsEdgesTest::toldOrder);
        Check.edge("Promise 9, 0 to the number of mounts - 1", FactsEdgesTest::mountAt);
        Check.edge("Promise 10, -1 if there is none", FactsEdgesTest::mountOn);
        Check.edge("Promise 10, no such mount, or the directory is not in it",
            FactsEdgesTest::mountOnWrong);
    }

    private static void looks() {
        Check.edge("Promise 11, 100 * the mount + the directory", FactsEdgesTest::lookAnswer);
        Check.edge("Promise 11, SYNTAX_ERROR or UNKNOWN for the first error",
            FactsEdgesTest::lookErrors);
        Check.edge("Promise 11, also at the beginning", FactsEdgesTest::lookBeginning);
        Check.edge("Promise 11, goes along it in a space", FactsEdgesTest::lookInSpace);
        Check.edge("Promise 12, from one place to all", FactsEdgesTest::seenNumbers);
        Check.edge("Promise 12, the first and the last space", FactsEdgesTest::seenSpaces);
        Check.edge("Promise 12, 40 mounts with 12 directories each", FactsEdgesTest::seenMost);
        Check.edge("Promise 13, a place on which there is a mount", FactsEdgesTest::isSeenCovered);
        Check.edge("Promise 13, a place below one on which there is a mount",
            FactsEdgesTest::isSeenBelow);
        Check.edge("Promise 13, no such mount, or the directory is not in it",
            FactsEdgesTest::isSeenWrong);
    }

    private static void followers() {
        Check.edge("Promise 14, 0 if it is not shared, itself counted",
            FactsEdgesTest::followerNumbers);
        Check.edge("Promise 14, all 40 mounts", FactsEdgesTest::allFollow);
        Check.edge("Promise 14, no such mount", FactsEdgesTest::followersWrong);
        Check.edge("Promise 15, 0 if there is a mount on this place",
            FactsEdgesTest::wouldMakeTaken);
        Check.edge("Promise 15, also if this would be refused as FULL",
            FactsEdgesTest::wouldMakeFull);
        Check.edge("Promise 15, what mount makes then", FactsEdgesTest::wouldMakeIsMade);
        Check.edge("Promise 15, no such mount, or the directory is not in it",
            FactsEdgesTest::wouldMakeWrong);
    }

    private static void paths() {
        Check.edge("Promise 16, for a root a slash", FactsEdgesTest::pathOfRoot);
        Check.edge("Promise 16, if nothing is written a slash", FactsEdgesTest::pathOfNothing);
        Check.edge("Promise 16, from the one below the top to the place",
            FactsEdgesTest::pathBelowTop);
        Check.edge("Promise 16, without this mount and what is on it",
            FactsEdgesTest::pathWithoutItself);
        Check.edge("Promise 16, also if the place cannot be seen", FactsEdgesTest::pathHidden);
        Check.edge("Promise 16, leads to the place", FactsEdgesTest::pathLeads);
        Check.edge("Promise 16, through 40 mounts", FactsEdgesTest::longestPath);
        Check.edge("Promise 16, replaces the text before", FactsEdgesTest::pathReplaces);
        Check.edge("Promise 16, no such mount", FactsEdgesTest::pathWrong);
        Check.edge("Promise 17, no text", FactsEdgesTest::noText);
        Check.edge("Promise 17, the first and the last byte", FactsEdgesTest::pathBytes);
    }

    private static MountSpaces filled() {
        // 0 a; 1 from b on d; 2 u on b; 3 u on e is gone.
        MountSpaces x = Check.loaded(A + "bind/b>/d;mount u/b;mount u/e;");
        x.unmount(3);
        return x;
    }

    /** No mount has such a number in what filled makes. */
    private static void noMounts(IntConsumer call) {
        for (int mount : new int[] {MIN, -1, 3, 4, 40, MAX}) {
            call.accept(mount);
        }
    }

    /** No such directory is in mount 1 of what filled makes. */
    private static void notInMount(IntConsumer call) {
        for (int directory : new int[] {MIN, -1, 0, 3, 4, 5, 12, MAX}) {
            call.accept(directory);
        }
    }

    private static void newObject() {
        MountSpaces x = new MountSpaces();
        int[] counts = {1, 1, 1, 0, 0, 0, 0, 1, 0};
        for (int what = 0; what < 9; what++) {
            Check.same("count(" + what + ")", x.count(what), counts[what]);
        }
        Check.same("directories(0)", x.directories(0), 1);
        Check.same("outer(0, 0)", x.outer(0, 0), -1);
        Check.mount(x, 0, 0, 0, 0, -1, -1, 0, 0, 0, 0);
        Check.raises("directories(1)", IndexOutOfBoundsException.class, () -> x.directories(1));
        Check.raises("outer(0, 1)", IndexOutOfBoundsException.class, () -> x.outer(0, 1));
        Check.raises("told(1, 0)", NoSuchElementException.class, () -> x.told(1, 0));
        Check.raises("mountAt(1)", IndexOutOfBoundsException.class, () -> x.mountAt(1));
        Check.raises("seen(1)", IndexOutOfBoundsException.class, () -> x.seen(1));
        Check.same("undo()", x.undo(), -1);
        Check.same("errorOffset()", x.errorOffset(), -1);
    }

    private static void newBuffer() {
        MountSpaces x = new MountSpaces();
        Check.raises("load(1)", IllegalArgumentException.class, () -> x.load(1));
        Check.raises("look(0, 1)", IllegalArgumentException.class, () -> x.look(0, 1));
        Check.same("append", x.append(0, 0, 0, 0, 0), 20);
    }

    private static void beforeLoad() {
        MountSpaces x = new MountSpaces();
        for (int n = 0; n < 2; n++) {
            Check.same("look /", Check.look(x, 0, "/"), 0);
            Check.same("look /a", Check.look(x, 0, "/a"), -13);
            Check.same("load", Check.load(x, "spaces;volume a(b);root b;"), -13);
            Check.same("volumes", x.count(0), 1);
            Check.same("directories", x.directories(0), 1);
            Check.same("mount 0 is a root", x.told(0, 3), -1);
        }
        Check.same("the volume can be mounted", x.mount(0, 0, 0), 1);
        Check.same("its path", Check.path(x, 1), "/");
        Check.same("path of what is on it", x.mount(1, 0, 0), 1);
        Check.same("is a slash", Check.path(x, 2), "/");
    }

    private static void countRange() {
        for (int what : new int[] {MIN, -1, 9, 10, MAX}) {
            Check.thrown("count(" + what + ")", IllegalArgumentException.class,
                FactsEdgesTest::filled, x -> x.count(what));
        }
        MountSpaces x = filled();
        int[] counts = {2, 1, 3, 0, 0, 0, 0, 4, 0};
        for (int what = 0; what < 9; what++) {
            Check.same("count(" + what + ")", x.count(what), counts[what]);
        }
    }

    private static void countKinds() {
        MountSpaces x = filled();
        for (int mount = 0; mount < 3; mount++) {
            x.make(mount, 1);
            Check.same("shared", x.count(3), mount + 1);
        }
        x.copySpace(0, true);
        Check.same("shared", x.count(3), 3);
        Check.same("with a master", x.count(4), 3);
        Check.same("locked", x.count(6), 3);
        for (int mount = 0; mount < 3; mount++) {
            x.make(mount, 3);
            Check.same("secret", x.count(5), mount + 1);
            Check.same("shared", x.count(3), 2 - mount);
        }
        x.make(4, 1);
        Check.same("shared, with a master", x.count(3), 1);
        Check.same("with a master", x.count(4), 3);
        x.make(4, 0);
        Check.same("with a master", x.count(4), 2);
        x.dropSpace();
        Check.same("with a master", x.count(4), 0);
        Check.same("locked", x.count(6), 0);
        Check.same("secret", x.count(5), 3);
    }

    private static void countMade() {
        MountSpaces x = Check.loaded(A);
        Check.same("the root", x.count(7), 1);
        for (int n = 1; n <= 60; n++) {
            x.mount(0, 1, 1);
            x.unmount(n);
            Check.same("made", x.count(7), n + 1);
        }
        Check.same("mounts", x.count(2), 1);
        x.copySpace(0, false);
        x.dropSpace();
        Check.same("with a copy", x.count(7), 62);
    }

    private static void countGroups() {
        MountSpaces x = Check.loaded(A);
        Check.same("none", x.count(8), 0);
        x.make(0, 0);
        x.make(0, 2);
        x.make(0, 3);
        x.mount(0, 1, 1);
        x.copySpace(0, true);
        Check.same("still none", x.count(8), 0);
        x.make(0, 1);
        Check.same("one", x.count(8), 1);
        x.make(0, 1);
        Check.same("shared already", x.count(8), 1);
        x.make(0, 0);
        Check.same("one that is gone", x.count(8), 1);
    }

    private static void directories() {
        for (int volume : new int[] {MIN, -1, 2, 3, 4, MAX}) {
            Check.thrown("directories(" + volume + ")", IndexOutOfBoundsException.class,
                FactsEdgesTest::filled, x -> x.directories(volume));
        }
        MountSpaces x = Check.loaded("spaces;volume a;volume b(b);volume c(b,c,d,e,f,g,h,i,j,k);"
            + "volume d(b,c,d,e,f,g,h,i,j,k,l);root a;");
        int[] due = {1, 2, 11, 12};
        for (int volume = 0; volume < 4; volume++) {
            Check.same("directories(" + volume + ")", x.directories(volume), due[volume]);
        }
        for (int volume : new int[] {-1, 4}) {
            Check.raises("directories(" + volume + ")", IndexOutOfBoundsException.class,
                () -> x.directories(volume));
        }
    }

    private static void outer() {
        for (int volume : new int[] {MIN, -1, 2, 3, 4, MAX}) {
            Check.thrown("outer(" + volume + ", 0)", IndexOutOfBoundsException.class,
                FactsEdgesTest::filled, x -> x.outer(volume, 0));
        }
        for (int directory : new int[] {MIN, -1, 5, 11, 12, MAX}) {
            Check.thrown("outer(0, " + directory + ")", IndexOutOfBoundsException.class,
                FactsEdgesTest::filled, x -> x.outer(0, directory));
        }
        MountSpaces x = Check.loaded("spaces;volume a;volume b(b,c,d,e,f,g,h,i,j,k,l);root a;");
        Check.same("outer(1, 11)", x.outer(1, 11), 0);
        Check.raises("outer(1, 12)", IndexOutOfBoundsException.class, () -> x.outer(1, 12));
        Check.same("outer(0, 0)", x.outer(0, 0), -1);
        Check.raises("outer(0, 1)", IndexOutOfBoundsException.class, () -> x.outer(0, 1));
        Check.raises("outer(2, 12)", IndexOutOfBoundsException.class, () -> x.outer(2, 12));
    }

    private static void outerOfRoot() {
        MountSpaces x = filled();
        Check.same("outer(0, 0)", x.outer(0, 0), -1);
        Check.same("outer(1, 0)", x.outer(1, 0), -1);
        int[] outers = {-1, 0, 1, 0, 0};
        for (int directory = 0; directory < 5; directory++) {
            Check.same("outer(0, " + directory + ")", x.outer(0, directory), outers[directory]);
        }
    }

    private static void toldRange() {
        for (int what : new int[] {MIN, -1, 9, 10, MAX}) {
            Check.thrown("told(1, " + what + ")", IllegalArgumentException.class,
                FactsEdgesTest::filled, x -> x.told(1, what));
        }
        noMounts(mount -> Check.thrown("told(" + mount + ", 0)", NoSuchElementException.class,
            FactsEdgesTest::filled, x -> x.told(mount, 0)));
        Check.mount(filled(), 1, 0, 0, 1, 0, 3, 0, 0, 0, 0);
        Check.mount(filled(), 2, 0, 1, 0, 0, 1, 0, 0, 0, 0);
    }

    private static void toldRoot() {
        MountSpaces x = filled();
        x.copySpace(0, true);
        x.mount(0, 0, 1);
        for (int root : new int[] {0, 4}) {
            Check.same("told(" + root + ", 3)", x.told(root, 3), -1);
            Check.same("told(" + root + ", 4)", x.told(root, 4), -1);
        }
        Check.same("one on directory 0 of mount 0", x.told(7, 3), 0);
        Check.same("is on directory 0", x.told(7, 4), 0);
    }

    private static void toldNone() {
        MountSpaces x = filled();
        for (int what = 5; what < 9; what++) {
            Check.same("told(0, " + what + ")", x.told(0, what), 0);
        }
        x.make(0, 1);
        Check.same("its group", x.told(0, 5), 1);
        x.copySpace(0, true);
        Check.same("its master", x.told(4, 6), 1);
        Check.same("it is locked", x.told(4, 8), 1);
        Check.same("but has no group", x.told(4, 5), 0);
        x.make(4, 3);
        Check.same("it is secret", x.told(4, 7), 1);
        Check.same("and has no master", x.told(4, 6), 0);
    }

    private static void toldOrder() {
        for (int what : new int[] {-1, 9}) {
            noMounts(mount -> Check.thrown("told(" + mount + ", " + what + ")",
                NoSuchElementException.class, FactsEdgesTest::filled, x -> x.told(mount, what)));
        }
    }

    private static void mountAt() {
        for (int index : new int[] {MIN, -1, 3, 4, 40, MAX}) {
            Check.thrown("mountAt(" + index + ")", IndexOutOfBoundsException.class,
                FactsEdgesTest::filled, x -> x.mountAt(index));
        }
        MountSpaces x = Check.loaded(A + "mount u/;".repeat(39));
        x.unmount(39);
        x.mount(38, 0, 0);
        Check.same("mountAt(0)", x.mountAt(0), 0);
        Check.same("mountAt(38)", x.mountAt(38), 38);
        Check.same("mountAt(39)", x.mountAt(39), 40);
        Check.raises("mountAt(40)", IndexOutOfBoundsException.class, () -> x.mountAt(40));
        x.unmount(40);
        Check.raises("mountAt(39) of 39", IndexOutOfBoundsException.class, () -> x.mountAt(39));
    }

    private static void mountOn() {
        MountSpaces x = filled();
        int[] due = {-1, 2, -1, 1, -1};
        for (int directory = 0; directory < 5; directory++) {
            Check.same("mountOn(0, " + directory + ")", x.mountOn(0, directory), due[directory]);
        }
        Check.same("mountOn(1, 1)", x.mountOn(1, 1), -1);
        x.mount(0, 0, 0);
        Check.same("mountOn(0, 0)", x.mountOn(0, 0), 4);
        Check.same("mountOn(4, 0)", x.mountOn(4, 0), -1);
    }

    private static void mountOnWrong() {
        noMounts(mount -> Check.thrown("mountOn(" + mount + ", 0)", NoSuchElementException.class,
            FactsEdgesTest::filled, x -> x.mountOn(mount, 0)));
        notInMount(directory -> Check.thrown("mountOn(1, " + directory + ")",
            NoSuchElementException.class, FactsEdgesTest::filled,
            x -> x.mountOn(1, directory)));
        Check.raises("mountOn(2, 3), not of its volume", NoSuchElementException.class,
            () -> filled().mountOn(2, 3));
    }

    private static void lookAnswer() {
        MountSpaces x = Check.loaded("spaces;volume a(b,c,d,e,f,g,h,i,j,k,l);root a;"
            + "mount a/;".repeat(39));
        Check.same("look /", Check.look(x, 0, "/"), 3900);
        Check.same("look /l", Check.look(x, 0, "/l"), 3911);
        Check.same("look /k", Check.look(x, 0, "/k"), 3910);
        for (int n = 39; n > 0; n--) {
            x.unmount(n);
        }
        Check.same("look /l", Check.look(x, 0, "/l"), 11);
        Check.same("look /", Check.look(x, 0, "/"), 0);
        for (int n = 40; n < 130; n++) {
            x.mount(0, 11, 0);
            x.unmount(n);
        }
        x.mount(0, 11, 0);
        Check.same("look /l with a great number", Check.look(x, 0, "/l"), 13000);
        Check.same("look /l/l", Check.look(x, 0, "/l/l"), 13011);
    }

    private static void lookErrors() {
        String[] syntax = {"^", "^b", "/^/", "/b/^", "/b/^;", "/b ^c", "/b^;", "/^bbbbbbb",
            "  ^B", "/b/^1", "/d/c^,", "/b/v/w/^;"};
        String[] unknown = {"/^x", "/^x?", "/b/^c", "/d/^b", "/d/^d", "/d/c/^c", "/b/v/w/^w",
            "/^bb", "  /  ^x  ", "/^x/y", "/d/^v"};
        for (String text : syntax) {
            lookError(-12, text);
        }
        for (String text : unknown) {
            lookError(-13, text);
        }
        Check.same("no other error", Check.look(filled(), 0, "/d/c"), 102);
    }

    private static void lookError(int code, String marked) {
        int at = marked.indexOf('^');
        MountSpaces x = filled();
        long before = x.checksum();
        Check.same("look " + marked, Check.look(x, 0, marked.substring(0, at)
            + marked.substring(at + 1)), code);
        Check.same("errorOffset of " + marked, x.errorOffset(), at);
        Check.same("checksum after " + marked, x.checksum(), before);
        Check.same("undo after " + marked, x.undo(), 1);
    }

    private static void lookBeginning() {
        MountSpaces x = filled();
        x.mount(0, 0, 1);
        Check.same("look /", Check.look(x, 0, "/"), 400);
        Check.same("look /v", Check.look(x, 0, "/v"), 401);
        Check.same("look /b", Check.look(x, 0, "/b"), -13);
        x.mount(4, 0, 0);
        Check.same("one on another", Check.look(x, 0, "/"), 500);
        Check.same("look /b", Check.look(x, 0, "/b"), 501);
        x.bind(0, 2, 5, 0);
        Check.same("the top of the last one", Check.look(x, 0, "/"), 602);
        Check.same("has nothing in it", Check.look(x, 0, "/c"), -13);
    }

    private static void lookInSpace() {
        MountSpaces x = filled();
        x.copySpace(0, false);
        x.copySpace(0, true);
        x.copySpace(0, false);
        for (int space = 0; space < 4; space++) {
            int root = x.mountAt(3 * space);
            Check.same("look / in " + space, Check.look(x, space, "/"), 100 * root);
            Check.same("look /b/v in " + space, Check.look(x, space, "/b/v"),
                100 * x.mountAt(3 * space + 2) + 1);
        }
    }

    private static void seenNumbers() {
        MountSpaces x = new MountSpaces();
        Check.same("one place", x.seen(0), 1);
        x.mount(0, 0, 0);
        Check.same("one place again", x.seen(0), 1);
        MountSpaces y = Check.loaded(A);
        Check.same("five places", y.seen(0), 5);
        y.bind(0, 2, 0, 0);
        Check.same("one directory that hides them", y.seen(0), 1);
        y.undo();
        y.bind(0, 2, 0, 1);
        Check.same("c on b, which hides c", y.seen(0), 4);
        y.mount(1, 2, 0);
        Check.same("a on that", y.seen(0), 8);
        y.mount(0, 2, 0);
        Check.same("a on the hidden c", y.seen(0), 8);
    }

    private static void seenSpaces() {
        MountSpaces x = filled();
        x.copySpace(0, false);
        x.mount(0, 0, 0);
        x.mount(4, 4, 1);
        Check.same("seen(0)", x.seen(0), 5);
        Check.same("seen(1)", x.seen(1), 9);
        for (int space : new int[] {MIN, -1, 1, 2, 4, MAX}) {
            Check.thrown("seen(" + space + ")", IndexOutOfBoundsException.class,
                FactsEdgesTest::filled, y -> y.seen(space));
        }
        x.copySpace(0, true);
        x.copySpace(0, true);
        Check.same("seen(3)", x.seen(3), 5);
        Check.raises("seen(4)", IndexOutOfBoundsException.class, () -> x.seen(4));
    }

    private static void seenMost() {
        MountSpaces x = Check.loaded("spaces;volume a(b,c,d,e,f,g,h,i,j,k,l);root a;");
        for (int mount = 1; mount < 40; mount++) {
            x.mount((mount - 1) / 11, (mount - 1) % 11 + 1, 0);
        }
        Check.same("mounts", x.count(2), 40);
        Check.same("all but what is covered", x.seen(0), 40 * 12 - 39);
        Check.same("the last place", x.isSeen(39, 11), true);
        Check.same("the place on which the last one is", x.isSeen(3, 6), false);
    }

    private static void isSeenCovered() {
        MountSpaces x = filled();
        boolean[] due = {true, false, false, false, true};
        for (int directory = 0; directory < 5; directory++) {
            Check.same("isSeen(0, " + directory + ")", x.isSeen(0, directory), due[directory]);
        }
        Check.same("the top of what covers it", x.isSeen(1, 1), true);
        x.mount(1, 1, 1);
        Check.same("covered, too", x.isSeen(1, 1), false);
        Check.same("the one on it", x.isSeen(4, 0), true);
        x.unmount(4);
        Check.same("no more covered", x.isSeen(1, 1), true);
        x.mount(0, 0, 0);
        Check.same("the root that is covered", x.isSeen(0, 0), false);
        Check.same("what is on it", x.isSeen(5, 0), true);
    }

    private static void isSeenBelow() {
        MountSpaces x = filled();
        Check.same("c, below the covered b", x.isSeen(0, 2), false);
        Check.same("c of mount 1", x.isSeen(1, 2), true);
        x.mount(0, 2, 0);
        Check.same("a mount on what is below", x.isSeen(4, 0), false);
        x.unmount(2);
        Check.same("when b is free", x.isSeen(4, 0), true);
        Check.same("the place of it", x.isSeen(0, 2), false);
        x.mount(0, 0, 1);
        Check.same("below the covered root", x.isSeen(0, 4), false);
        Check.same("a mount there", x.isSeen(1, 2), false);
    }

    private static void isSeenWrong() {
        noMounts(mount -> Check.thrown("isSeen(" + mount + ", 0)", NoSuchElementException.class,
            FactsEdgesTest::filled, x -> x.isSeen(mount, 0)));
        notInMount(directory -> Check.thrown("isSeen(1, " + directory + ")",
            NoSuchElementException.class, FactsEdgesTest::filled, x -> x.isSeen(1, directory)));
    }

    private static void followerNumbers() {
        MountSpaces x = filled();
        for (int mount = 0; mount < 3; mount++) {
            Check.same("followers(" + mount + ")", x.followers(mount), 0);
        }
        x.make(1, 1);
        Check.same("followers(1)", x.followers(1), 1);
        Check.same("followers(0)", x.followers(0), 0);
        x.copySpace(0, true);
        Check.same("followers(1)", x.followers(1), 2);
        Check.same("followers of its slave", x.followers(5), 0);
        x.make(1, 3);
        Check.same("a secret one", x.followers(1), 0);
    }

    private static void allFollow() {
        MountSpaces x = new MountSpaces();
        x.make(0, 1);
        for (int mount = 0; mount < 39; mount++) {
            Check.same("followers(" + mount + ")", x.followers(mount), mount + 1);
            Check.same("one more", x.bind(0, 0, mount, 0), 1);
        }
        Check.same("all follow the first", x.followers(0), 40);
        Check.same("all follow the last", x.followers(39), 40);
        MountSpaces y = Check.loaded("spaces;volume a(b,c);root a;make shared/;bind/>/b;");
        Check.same("two more", y.bind(0, 0, 0, 2), 2);
        y.copySpace(0, true);
        y.copySpace(0, true);
        y.copySpace(0, true);
        Check.same("four and their twelve slaves", y.followers(3), 16);
        Check.same("a slave", y.followers(15), 0);
    }

    private static void followersWrong() {
        noMounts(mount -> Check.thrown("followers(" + mount + ")", NoSuchElementException.class,
            FactsEdgesTest::filled, x -> x.followers(mount)));
    }

    private static void wouldMakeTaken() {
        MountSpaces x = filled();
        int[] due = {1, 0, 1, 0, 1};
        for (int directory = 0; directory < 5; directory++) {
            Check.same("wouldMake(0, " + directory + ")", x.wouldMake(0, directory),
                due[directory]);
        }
        x.make(0, 1);
        x.copySpace(0, false);
        x.unmount(2);
        Check.same("free here", x.wouldMake(0, 1), 2);
        x.mount(4, 4, 1);
        Check.same("taken by the copies", x.wouldMake(0, 4), 0);
    }

    private static void wouldMakeFull() {
        MountSpaces x = Check.loaded(A + "mount u/;".repeat(39));
        Check.same("the 41st", x.wouldMake(39, 0), 1);
        Check.same("is refused", x.mount(39, 0, 0), -8);
        Check.same("on a place that is taken", x.wouldMake(38, 0), 0);
        x.make(0, 1);
        Check.same("shared", x.wouldMake(0, 1), 1);
        MountSpaces y = Check.loaded("spaces;volume a(b,c,d,e,f,g);root a;make shared/;"
            + "bind/>/b;bind/>/c;bind/>/d;bind/>/e;bind/>/f;");
        Check.same("32 more than 32", y.wouldMake(0, 6), 32);
        Check.same("is refused", y.mount(0, 6, 0), -8);
        Check.same("on a place of the last one", y.wouldMake(31, 6), 32);
    }

    private static void wouldMakeIsMade() {
        MountSpaces x = Check.loaded(A + "make shared/;bind/b>/d;make slave/d;bind/>/e;");
        x.copySpace(0, true);
        x.make(x.mountAt(4), 1);
        for (int i = 0; i < x.count(2); i++) {
            int mount = x.mountAt(i);
            for (int directory = 1; directory < 3; directory++) {
                int due = x.wouldMake(mount, directory);
                long before = x.checksum();
                int answer = x.mount(mount, directory, 1);
                Check.same("mount(" + mount + ", " + directory + ", 1)", answer,
                    due == 0 ? -1 : due);
                x.undo();
                Check.same("checksum", x.checksum(), before);
            }
        }
    }

    private static void wouldMakeWrong() {
        noMounts(mount -> Check.thrown("wouldMake(" + mount + ", 0)",
            NoSuchElementException.class, FactsEdgesTest::filled, x -> x.wouldMake(mount, 0)));
        notInMount(directory -> Check.thrown("wouldMake(1, " + directory + ")",
            NoSuchElementException.class, FactsEdgesTest::filled,
            x -> x.wouldMake(1, directory)));
    }

    private static void pathOfRoot() {
        MountSpaces x = filled();
        x.copySpace(0, true);
        Check.same("path(0)", x.path(0), 1);
        Check.same("path of root 0", Check.path(x, 0), "/");
        Check.same("path of root 4", Check.path(x, 4), "/");
    }

    private static void pathOfNothing() {
        MountSpaces x = filled();
        x.mount(0, 0, 1);
        Check.same("on the top of the root", Check.path(x, 4), "/");
        x.mount(4, 0, 0);
        Check.same("on the top of that", Check.path(x, 5), "/");
        x.mount(5, 0, 0);
        Check.same("and again", Check.path(x, 6), "/");
        x.mount(6, 4, 0);
        Check.same("but not below", Check.path(x, 7), "/e");
    }

    private static void pathBelowTop() {
        MountSpaces x = filled();
        x.mount(1, 1, 0);
        Check.same("on the top of mount 1", Check.path(x, 4), "/d");
        x.mount(1, 2, 0);
        Check.same("one below it", Check.path(x, 5), "/d/c");
        x.mount(0, 2, 0);
        Check.same("two below the root's top", Check.path(x, 6), "/b/c");
        x.bind(0, 2, 0, 4);
        x.mount(7, 2, 0);
        Check.same("on a top that is deep", Check.path(x, 8), "/e");
        MountSpaces y = Check.loaded("spaces;volume a(b(c(d(e(f)))));root a;mount a/b/c/d/e/f;");
        Check.same("five below the top", Check.path(y, 1), "/b/c/d/e/f");
        y.bind(0, 2, 1, 0);
        y.mount(2, 5, 0);
        Check.same("three below the top", Check.path(y, 3), "/b/c/d/e/f/d/e/f");
    }

    private static void pathWithoutItself() {
        MountSpaces x = filled();
        Check.same("the top of mount 1 is not written", Check.path(x, 1), "/d");
        x.bind(0, 2, 0, 4);
        Check.same("nor a deep one", Check.path(x, 4), "/e");
        x.mount(4, 2, 1);
        Check.same("nor what is on it", Check.path(x, 4), "/e");
    }

    private static void pathHidden() {
        MountSpaces x = filled();
        x.mount(0, 2, 0);
        Check.same("below the covered b", Check.path(x, 4), "/b/c");
        x.mount(0, 0, 1);
        Check.same("below the covered root", Check.path(x, 4), "/b/c");
        Check.same("on d", Check.path(x, 1), "/d");
        x.mount(4, 3, 0);
        Check.same("on one that is hidden", Check.path(x, 6), "/b/c/d");
    }

    private static void pathLeads() {
        MountSpaces x = Check.loaded(A + "mount u/b;mount a/b/v/w;bind/b/v/w/b>/d;mount u/d/c;");
        for (int i = 1; i < x.count(2); i++) {
            int mount = x.mountAt(i);
            Check.same("look along path(" + mount + ")",
                Check.look(x, 0, Check.path(x, mount)), 100 * mount + x.told(mount, 2));
        }
    }

    private static void longestPath() {
        MountSpaces x = Check.loaded("spaces;volume a(aaaaaa(bbbbbb(cccccc(dddddd(zzzzzz)))));"
            + "root a;");
        for (int mount = 1; mount < 40; mount++) {
            x.mount(mount - 1, 5, 0);
        }
        Check.same("path(39)", x.path(39), 39 * 35);
        Check.same("its first byte", x.pathByte(0), '/');
        Check.same("its last byte", x.pathByte(39 * 35 - 1), 'z');
        Check.same("the last slash", x.pathByte(39 * 35 - 7), '/');
        Check.raises("one behind it", IndexOutOfBoundsException.class,
            () -> x.pathByte(39 * 35));
        Check.same("path(38)", x.path(38), 38 * 35);
        Check.raises("the end of a shorter one", IndexOutOfBoundsException.class,
            () -> x.pathByte(38 * 35));
    }

    private static void pathReplaces() {
        MountSpaces x = filled();
        x.mount(0, 2, 0);
        Check.same("path(4)", Check.path(x, 4), "/b/c");
        Check.same("path(1)", x.path(1), 2);
        Check.same("pathByte(1)", x.pathByte(1), 'd');
        Check.raises("pathByte(2)", IndexOutOfBoundsException.class, () -> x.pathByte(2));
        Check.same("path(0)", x.path(0), 1);
        Check.raises("pathByte(1)", IndexOutOfBoundsException.class, () -> x.pathByte(1));
        Check.same("path(4)", Check.path(x, 4), "/b/c");
    }

    private static void pathWrong() {
        noMounts(mount -> Check.thrown("path(" + mount + ")", NoSuchElementException.class,
            FactsEdgesTest::filled, x -> x.path(mount)));
        MountSpaces x = filled();
        x.path(1);
        Check.raises("path(3)", NoSuchElementException.class, () -> x.path(3));
        Check.same("the text stays", x.pathByte(1), 'd');
        MountSpaces y = filled();
        Check.raises("path(3)", NoSuchElementException.class, () -> y.path(3));
        Check.raises("no text", IndexOutOfBoundsException.class, () -> y.pathByte(0));
    }

    private static void noText() {
        for (int index : new int[] {MIN, -1, 0, 1, MAX}) {
            Check.raises("pathByte(" + index + ") of a new object",
                IndexOutOfBoundsException.class, () -> new MountSpaces().pathByte(index));
            Check.raises("pathByte(" + index + ") of a loaded one",
                IndexOutOfBoundsException.class, () -> filled().pathByte(index));
        }
    }

    private static void pathBytes() {
        for (int index : new int[] {MIN, -1, 1, 2, MAX}) {
            Check.thrown("pathByte(" + index + ") of a slash", IndexOutOfBoundsException.class,
                FactsEdgesTest::filled, x -> x.pathByte(index));
        }
        MountSpaces x = Check.loaded("spaces;volume q(az(zyxwvu));root q;mount q/az/zyxwvu;");
        Check.same("path(1)", x.path(1), 10);
        String due = "/az/zyxwvu";
        for (int index = 0; index < 10; index++) {
            Check.same("pathByte(" + index + ")", x.pathByte(index), due.charAt(index));
        }
        for (int index : new int[] {MIN, -1, 10, 11, 600, MAX}) {
            Check.raises("pathByte(" + index + ")", IndexOutOfBoundsException.class,
                () -> x.pathByte(index));
        }
    }
}
