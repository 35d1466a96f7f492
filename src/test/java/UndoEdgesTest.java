import java.math.BigInteger;
import java.util.ArrayList;
import java.util.List;
import java.util.function.Consumer;
import java.util.function.Supplier;

/** The boundary cases of promises 25 and 26: what is a change, what is final, the checksum. */
public final class UndoEdgesTest {
    private static final String A = "spaces;volume a(b(c),d,e);volume u(v(w));root a;";

    private UndoEdgesTest() {
    }

    public static void main(String[] args) {
        Check.choose(args);
        changes();
        noChanges();
        numbers();
        eight();
        notAffected();
        checksums();
        Check.end("UndoEdgesTest");
    }

    private static void changes() {
        Check.edge("Promise 25, nothing to undo", UndoEdgesTest::nothing);
        change("load", x -> Check.load(x, A));
        change("mount", x -> x.mount(0, 1, 1));
        change("bind", x -> x.bind(0, 1, 0, 1));
        change("move", x -> x.move(2, 0, 1));
        change("unmount", x -> x.unmount(2));
        change("make", x -> x.make(0, 3));
        change("copySpace", x -> x.copySpace(0, true));
        change("dropSpace", MountSpaces::dropSpace);
        change("mount that is refused", x -> x.mount(0, 4, 1));
        change("bind that is refused", x -> x.bind(0, 1, 0, 4));
        change("move that is refused", x -> x.move(2, 0, 4));
        change("unmount that is refused", x -> x.unmount(0));
        change("make that changes nothing", x -> x.make(0, 0));
        change("make shared of a shared one", x -> x.make(5, 1));
        change("copySpace that is refused", UndoEdgesTest::fourSpaces,
            x -> x.copySpace(1, true));
        Check.edge("Promise 25, a change: load of what there is already",
            UndoEdgesTest::loadAgain);
    }

    private static void noChanges() {
        noChange("append", x -> x.append(0, 0, 0, 0, 0));
        noChange("load with an error", x -> Check.load(x, A + "mount u/x;"));
        noChange("load that throws", x -> Check.raises("load", IllegalArgumentException.class,
            () -> x.load(1)));
        noChange("look", x -> Check.look(x, 0, "/b"));
        noChange("look with an error", x -> Check.look(x, 0, "/x"));
        noChange("the calls that tell", UndoEdgesTest::tell);
        noChange("path", x -> x.path(2));
        noChange("an undo of what was done", x -> {
            x.mount(0, 1, 1);
            x.undo();
        });
    }

    private static void numbers() {
        Check.edge("Promise 25, the number of changes that can still be undone",
            UndoEdgesTest::howMany);
        Check.edge("Promise 25, the latest one first", UndoEdgesTest::latestFirst);
        Check.edge("Promise 25, the numbers of mounts and groups go back",
            UndoEdgesTest::numbersGoBack);
        Check.edge("Promise 25, numbers that a removal has left free",
            UndoEdgesTest::removedComeBack);
        Check.edge("Promise 25, an undo can't be undone", UndoEdgesTest::undoIsNoChange);
    }

    private static void eight() {
        Check.edge("Promise 25, the 8th latest change can be undone", UndoEdgesTest::eighth);
        Check.edge("Promise 25, the 9th latest change is final", UndoEdgesTest::ninth);
        Check.edge("Promise 25, refused changes make others final", UndoEdgesTest::refusedCount);
        Check.edge("Promise 25, calls that throw make none final", UndoEdgesTest::thrownDont);
        Check.edge("Promise 25, final as soon as 8 later ones, none undone",
            UndoEdgesTest::noneUndone);
        Check.edge("Promise 25, what is final stays so", UndoEdgesTest::staysFinal);
        Check.edge("Promise 25, over many changes", UndoEdgesTest::manyChanges);
        Check.edge("Promise 25, a load is one change", UndoEdgesTest::loads);
    }

    private static void notAffected() {
        Check.edge("Promise 25, the input buffer is not affected", UndoEdgesTest::bufferStays);
        Check.edge("Promise 25, the error offset is not affected", UndoEdgesTest::offsetStays);
        Check.edge("Promise 25, the text of path is not affected", UndoEdgesTest::textStays);
        Check.edge("Promise 25, -1, and nothing changes then", UndoEdgesTest::nothingChanges);
    }

    private static void checksums() {
        Check.edge("Promise 26, starts at 0, in the order that is told",
            UndoEdgesTest::checksumOfNew);
        Check.edge("Promise 26, from no mount more to 40", UndoEdgesTest::checksumOfMany);
        Check.edge("Promise 26, the step before it wraps around, and wrapping around",
            UndoEdgesTest::wraps);
        Check.edge("Promise 26, changes nothing", UndoEdgesTest::checksumAgain);
    }

    private static void change(String name, Consumer<MountSpaces> call) {
        change(name, UndoEdgesTest::prepared, call);
    }

    /** Five changes, the last of which changes something, have been made before the call. */
    private static void change(String name, Supplier<MountSpaces> maker,
            Consumer<MountSpaces> call) {
        Check.edge("Promise 25, a change: " + name, () -> {
            MountSpaces x = maker.get();
            long before = x.checksum();
            call.accept(x);
            Check.same("undo", x.undo(), 5);
            Check.same("checksum", x.checksum(), before);
            Check.same("undo of the change before it", x.undo(), 4);
            Check.same("checksum is the same", x.checksum() == before, false);
        });
    }

    private static void noChange(String name, Consumer<MountSpaces> call) {
        Check.edge("Promise 25, no change: " + name, () -> {
            MountSpaces x = prepared();
            long before = x.checksum();
            call.accept(x);
            Check.same("checksum", x.checksum(), before);
            Check.same("undo of the change before it", x.undo(), 4);
            Check.same("checksum is the same", x.checksum() == before, false);
        });
    }

    /** 0 a, 1 u on e, 2 u on d; 3 to 5 and 6 to 8 are their copies, 5 is shared. */
    private static MountSpaces prepared() {
        MountSpaces x = Check.loaded(A + "mount u/e;mount u/d;");
        x.copySpace(0, false);
        x.make(5, 1);
        x.mount(3, 1, 0);
        x.copySpace(0, false);
        return x;
    }

    private static MountSpaces fourSpaces() {
        MountSpaces x = Check.loaded(A);
        x.copySpace(0, false);
        x.mount(1, 1, 0);
        x.copySpace(0, false);
        x.copySpace(0, false);
        return x;
    }

    private static void loadAgain() {
        MountSpaces x = Check.loaded(A);
        long before = x.checksum();
        Check.load(x, A);
        Check.same("checksum", x.checksum(), before);
        Check.same("undo", x.undo(), 1);
        Check.same("checksum", x.checksum(), before);
        Check.same("undo", x.undo(), 0);
        Check.same("checksum", x.checksum(), new MountSpaces().checksum());
    }

    private static void tell(MountSpaces x) {
        x.errorOffset();
        x.count(0);
        x.directories(0);
        x.outer(0, 0);
        x.told(0, 0);
        x.mountAt(0);
        x.mountOn(0, 0);
        x.seen(0);
        x.isSeen(0, 0);
        x.followers(0);
        x.wouldMake(0, 0);
        x.checksum();
    }

    private static void nothing() {
        MountSpaces x = new MountSpaces();
        Check.same("undo of a new object", x.undo(), -1);
        x.mount(0, 0, 0);
        Check.same("of one change", x.undo(), 0);
        Check.same("of none", x.undo(), -1);
        Check.same("again", x.undo(), -1);
        x.make(0, 1);
        Check.same("of a change behind it", x.undo(), 0);
        Check.same("of none", x.undo(), -1);
    }

    private static void howMany() {
        for (int changes = 0; changes <= 12; changes++) {
            MountSpaces x = new MountSpaces();
            for (int n = 0; n < changes; n++) {
                x.make(0, n % 4);
            }
            for (int left = Math.min(changes, 8) - 1; left >= -1; left--) {
                Check.same("undo of " + changes, x.undo(), left);
            }
            Check.same("undo of none", x.undo(), -1);
        }
    }

    private static void latestFirst() {
        MountSpaces x = Check.loaded(A);
        x.mount(0, 1, 1);
        x.mount(0, 3, 1);
        x.make(0, 1);
        x.undo();
        Check.same("the group", x.told(0, 5), 0);
        Check.same("mounts", Check.mounts(x), "0 1 2");
        x.undo();
        Check.same("mounts", Check.mounts(x), "0 1");
        x.undo();
        Check.same("mounts", Check.mounts(x), "0");
        x.undo();
        Check.same("the load", x.count(0), 1);
    }

    private static void numbersGoBack() {
        MountSpaces x = Check.loaded(A + "make shared/;");
        x.copySpace(0, true);
        x.make(1, 1);
        x.mount(0, 1, 1);
        Check.same("made", x.count(7), 4);
        Check.same("groups", x.count(8), 4);
        x.undo();
        Check.same("made", x.count(7), 2);
        Check.same("groups", x.count(8), 2);
        x.mount(0, 3, 1);
        Check.mount(x, 2, 0, 1, 0, 0, 3, 3, 0, 0, 0);
        Check.mount(x, 3, 1, 1, 0, 1, 3, 4, 3, 0, 0);
        x.undo();
        x.undo();
        Check.same("groups", x.count(8), 1);
        Check.same("the group again", x.make(1, 1), 2);
        x.undo();
        x.undo();
        Check.same("made", x.count(7), 1);
        x.copySpace(0, false);
        Check.same("the number again", Check.mounts(x), "0 1");
        x.undo();
        x.undo();
        Check.same("groups", x.count(8), 0);
    }

    private static void removedComeBack() {
        MountSpaces x = Check.loaded(A + "mount u/b;mount u/d;mount u/e;");
        x.unmount(1);
        x.unmount(3);
        x.mount(0, 1, 1);
        Check.same("mounts", Check.mounts(x), "0 2 4");
        x.undo();
        x.undo();
        Check.same("mounts", Check.mounts(x), "0 2 3");
        x.undo();
        Check.same("mounts", Check.mounts(x), "0 1 2 3");
        Check.mount(x, 1, 0, 1, 0, 0, 1, 0, 0, 0, 0);
        x.mount(1, 0, 0);
        Check.same("mounts", Check.mounts(x), "0 1 2 3 4");
    }

    private static void undoIsNoChange() {
        MountSpaces x = Check.loaded(A);
        x.mount(0, 1, 1);
        x.mount(0, 3, 1);
        Check.same("undo", x.undo(), 2);
        Check.same("undo", x.undo(), 1);
        Check.same("mounts", Check.mounts(x), "0");
        Check.same("undo", x.undo(), 0);
        Check.same("undo", x.undo(), -1);
    }

    /** An object with so many mounts upon one another, each of them a change. */
    private static MountSpaces stacked(int changes) {
        MountSpaces x = new MountSpaces();
        for (int n = 0; n < changes; n++) {
            x.mount(n, 0, 0);
        }
        return x;
    }

    private static void eighth() {
        for (int changes : new int[] {8, 9, 20}) {
            MountSpaces x = stacked(changes);
            for (int left = 7; left >= 0; left--) {
                Check.same("undo", x.undo(), left);
                Check.same("mounts", x.count(2), changes - 7 + left);
            }
        }
    }

    private static void ninth() {
        for (int changes : new int[] {9, 10, 16, 17, 20}) {
            MountSpaces x = stacked(changes);
            for (int n = 0; n < 8; n++) {
                x.undo();
            }
            Check.same("the 9th of " + changes, x.undo(), -1);
            Check.same("it stays", x.count(2), changes - 7);
        }
    }

    private static void refusedCount() {
        MountSpaces x = stacked(1);
        for (int n = 0; n < 7; n++) {
            Check.same("refused", x.mount(0, 0, 0), -1);
        }
        for (int left = 7; left >= 1; left--) {
            Check.same("undo", x.undo(), left);
        }
        Check.same("the mount can be undone", x.undo(), 0);
        Check.same("mounts", x.count(2), 1);
        MountSpaces y = stacked(1);
        for (int n = 0; n < 8; n++) {
            Check.same("refused", y.unmount(0), -4);
        }
        for (int left = 7; left >= 0; left--) {
            Check.same("undo", y.undo(), left);
        }
        Check.same("the mount is final", y.undo(), -1);
        Check.same("mounts", y.count(2), 2);
    }

    private static void thrownDont() {
        MountSpaces x = stacked(8);
        Check.raises("mount", java.util.NoSuchElementException.class, () -> x.mount(9, 0, 0));
        Check.raises("mount", IndexOutOfBoundsException.class, () -> x.mount(8, 0, 1));
        Check.raises("make", IllegalArgumentException.class, () -> x.make(0, 4));
        Check.raises("dropSpace", IllegalStateException.class, x::dropSpace);
        Check.load(x, "spaces;");
        for (int left = 7; left >= 0; left--) {
            Check.same("undo", x.undo(), left);
        }
        Check.same("mounts", x.count(2), 1);
    }

    private static void noneUndone() {
        MountSpaces x = stacked(8);
        // Three are undone, so three new ones make none final, and a fourth one does.
        for (int n = 0; n < 3; n++) {
            x.undo();
        }
        for (int n = 0; n < 3; n++) {
            x.make(0, 1);
        }
        for (int left = 7; left >= 0; left--) {
            Check.same("undo", x.undo(), left);
        }
        Check.same("all are undone", x.count(2), 1);
        MountSpaces y = stacked(8);
        for (int n = 0; n < 3; n++) {
            y.undo();
        }
        for (int n = 0; n < 4; n++) {
            y.make(0, 1);
        }
        for (int left = 7; left >= 0; left--) {
            Check.same("undo", y.undo(), left);
        }
        Check.same("the first is final", y.undo(), -1);
        Check.same("mounts", y.count(2), 2);
    }

    private static void staysFinal() {
        MountSpaces x = stacked(10);
        for (int n = 0; n < 8; n++) {
            x.undo();
        }
        Check.same("the second is final", x.undo(), -1);
        x.make(0, 1);
        Check.same("a new one can be undone", x.undo(), 0);
        Check.same("the second is still final", x.undo(), -1);
        Check.same("mounts", x.count(2), 3);
    }

    private static void manyChanges() {
        MountSpaces x = Check.loaded(A);
        List<Long> sums = new ArrayList<>();
        int number = 1;
        for (int n = 0; n < 60; n++) {
            sums.add(x.checksum());
            x.mount(0, 1, 1);
            sums.add(x.checksum());
            x.unmount(number);
            number++;
            if (n % 10 == 9) {
                for (int back = 1; back <= 8; back++) {
                    Check.same("undo", x.undo(), 8 - back);
                    Check.same("checksum", x.checksum(), sums.get(sums.size() - back));
                }
                Check.same("undo of what is final", x.undo(), -1);
                number = x.count(7);
            }
        }
    }

    private static void loads() {
        MountSpaces x = new MountSpaces();
        String[] texts = new String[10];
        for (int n = 0; n < 10; n++) {
            texts[n] = "spaces;volume a(x" + "abcdefghij".charAt(n) + ");root a;"
                + "mount a/;".repeat(n);
            Check.same("load", Check.load(x, texts[n]), n + 1);
        }
        for (int n = 8; n >= 1; n--) {
            Check.same("undo", x.undo(), n - 1);
            Check.same("mounts", x.count(2), n + 1);
            Check.same("the name", Check.look(x, 0, "/x" + "abcdefghij".charAt(n)), 100 * n + 1);
            Check.same("no other name", Check.look(x, 0, "/x" + "abcdefghij".charAt(n + 1)),
                -13);
        }
        Check.same("undo of what is final", x.undo(), -1);
    }

    private static void bufferStays() {
        MountSpaces x = prepared();
        Check.append(x, "/e                  ");
        x.undo();
        Check.same("append", x.append(0x20202020, 0x20202020, 0x20202020, 0x20202020,
            0x20202020), 40);
        x.undo();
        Check.same("look", x.look(0, 40) >= 0, true);
        x.undo();
        Check.raises("it does not come back", IllegalArgumentException.class,
            () -> x.look(0, 1));
        MountSpaces y = prepared();
        Check.load(y, A);
        y.undo();
        Check.same("nor does that of a load", y.append(0, 0, 0, 0, 0), 20);
    }

    private static void offsetStays() {
        MountSpaces x = prepared();
        Check.look(x, 0, "/e/?");
        x.undo();
        Check.same("errorOffset", x.errorOffset(), 3);
        Check.load(x, A);
        x.undo();
        Check.same("errorOffset of a good load", x.errorOffset(), -1);
        Check.load(x, "?");
        x.undo();
        Check.same("errorOffset of a bad load", x.errorOffset(), 0);
    }

    private static void textStays() {
        MountSpaces x = Check.loaded(A + "mount u/b/c;");
        x.mount(0, 4, 1);
        x.path(2);
        x.undo();
        Check.same("of a mount that is gone", x.pathByte(1), 'e');
        x.path(1);
        x.undo();
        Check.same("of a volume that is gone", x.pathByte(3), 'c');
        Check.same("its first byte", x.pathByte(0), '/');
        x.undo();
        Check.same("with nothing to undo", x.pathByte(1), 'b');
        MountSpaces y = Check.loaded(A + "mount u/b/c;");
        y.undo();
        Check.raises("nor does a text come", IndexOutOfBoundsException.class,
            () -> y.pathByte(0));
    }

    private static void nothingChanges() {
        MountSpaces x = prepared();
        for (int left = 4; left >= 0; left--) {
            Check.same("undo", x.undo(), left);
        }
        Check.look(x, 0, "/?");
        x.path(0);
        long before = x.checksum();
        Check.append(x, "/");
        Check.same("undo", x.undo(), -1);
        Check.same("undo again", x.undo(), -1);
        Check.same("checksum", x.checksum(), before);
        Check.same("errorOffset", x.errorOffset(), 1);
        Check.same("the text of path", x.pathByte(0), '/');
        Check.same("the input buffer", x.look(0, 1), 0);
    }

    private static BigInteger sumOf(int... numbers) {
        BigInteger sum = BigInteger.ZERO;
        for (int n : numbers) {
            sum = sum.multiply(BigInteger.valueOf(31)).add(BigInteger.valueOf(n));
        }
        return sum;
    }

    private static void checksumOfNew() {
        MountSpaces x = new MountSpaces();
        Check.same("new", x.checksum(), sumOf(1, 1, 1, 0, 0, 0, 0, 1, 0, 1, -1,
            0, 0, 0, 0, -1, -1, 0, 0, 0, 0, 0, 1).longValue());
        x.make(0, 1);
        Check.same("shared", x.checksum(), sumOf(1, 1, 1, 1, 0, 0, 0, 1, 1, 1, -1,
            0, 0, 0, 0, -1, -1, 1, 0, 0, 0, 1, 1).longValue());
        x.copySpace(0, true);
        x.make(0, 3);
        Check.same("two spaces", x.checksum(), sumOf(1, 2, 2, 0, 1, 1, 1, 2, 1, 1, -1,
            0, 0, 0, 0, -1, -1, 0, 0, 1, 0, 0,
            1, 1, 0, 0, -1, -1, 0, 1, 0, 1, 0, 1, 1).longValue());
    }

    private static void checksumOfMany() {
        MountSpaces x = Check.loaded("spaces;volume a;volume b(c,d,e,f,g,h,i,j,k,l,m);volume n;"
            + "volume o(p(q));root b;make shared/;bind/>/c;bind/>/d;bind/>/e;");
        x.copySpace(0, true);
        x.copySpace(0, true);
        x.make(23, 1);
        x.copySpace(2, false);
        Check.same("mounts", x.count(2), 32);
        Check.same("of 32 mounts", x.checksum(), byCalls(x));
        MountSpaces y = stacked(39);
        Check.same("of 40 mounts", y.checksum(), byCalls(y));
    }

    /** The checksum, made up from what the other calls answer. */
    private static long byCalls(MountSpaces x) {
        List<Integer> numbers = new ArrayList<>();
        for (int what = 0; what < 9; what++) {
            numbers.add(x.count(what));
        }
        for (int volume = 0; volume < x.count(0); volume++) {
            int size = x.directories(volume);
            numbers.add(size);
            for (int directory = 0; directory < size; directory++) {
                numbers.add(x.outer(volume, directory));
            }
        }
        for (int i = 0; i < numbers.get(2); i++) {
            int mount = x.mountAt(i);
            numbers.add(mount);
            for (int what = 0; what < 9; what++) {
                numbers.add(x.told(mount, what));
            }
            numbers.add(x.followers(mount));
        }
        for (int space = 0; space < numbers.get(1); space++) {
            numbers.add(x.seen(space));
        }
        return sumOf(numbers.stream().mapToInt(Integer::intValue).toArray()).longValue();
    }

    private static void wraps() {
        int[] numbers = {1, 1, 1, 0, 0, 0, 0, 1, 0, 1, -1, 0, 0, 0, 0, -1, -1, 0, 0, 0, 0, 0, 1};
        BigInteger sum = sumOf(numbers);
        Check.same("it is greater than a long", sum.bitLength() > 63, true);
        Check.same("wrapped around", new MountSpaces().checksum(), sum.longValue());
        long wrapped = 0;
        boolean isNegativeOnce = false;
        for (int n : numbers) {
            wrapped = 31 * wrapped + n;
            isNegativeOnce |= wrapped < 0;
        }
        Check.same("by a step to a negative number", isNegativeOnce, true);
        Check.same("step by step", new MountSpaces().checksum(), wrapped);
    }

    private static void checksumAgain() {
        MountSpaces x = prepared();
        x.path(0);
        Check.look(x, 0, "/?");
        long sum = x.checksum();
        Check.same("again", x.checksum(), sum);
        Check.same("errorOffset", x.errorOffset(), 1);
        Check.same("the text of path", x.pathByte(0), '/');
        Check.same("of another object with the same calls", prepared().checksum(), sum);
    }
}
