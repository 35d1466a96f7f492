import java.util.NoSuchElementException;

/** Promises 1, 5 to 10, and what they answer of a new object and of one with a setup. */
public final class NewObjectTest {
    private NewObjectTest() {
    }

    public static void main(String[] args) {
        newObject();
        counts();
        volumes();
        mounts();
        Check.end("NewObjectTest");
    }

    private static void newObject() {
        MountSpaces x = new MountSpaces();
        int[] counts = {1, 1, 1, 0, 0, 0, 0, 1, 0};
        for (int what = 0; what < 9; what++) {
            Check.same("new: count(" + what + ")", x.count(what), counts[what]);
        }
        Check.same("new: directories(0)", x.directories(0), 1);
        Check.same("new: outer(0, 0)", x.outer(0, 0), -1);
        Check.mount(x, 0, 0, 0, 0, -1, -1, 0, 0, 0, 0);
        Check.same("new: mountAt(0)", x.mountAt(0), 0);
        Check.same("new: mountOn(0, 0)", x.mountOn(0, 0), -1);
        Check.same("new: seen(0)", x.seen(0), 1);
        Check.same("new: isSeen(0, 0)", x.isSeen(0, 0), true);
        Check.same("new: followers(0)", x.followers(0), 0);
        Check.same("new: wouldMake(0, 0)", x.wouldMake(0, 0), 1);
        Check.same("new: errorOffset()", x.errorOffset(), -1);
        Check.same("new: undo()", x.undo(), -1);
        Check.raises("new: load(1)", IllegalArgumentException.class, () -> x.load(1));
        Check.raises("new: look(0, 1)", IllegalArgumentException.class, () -> x.look(0, 1));
        Check.raises("new: pathByte(0)", IndexOutOfBoundsException.class, () -> x.pathByte(0));
        Check.raises("new: dropSpace()", IllegalStateException.class, x::dropSpace);
        Check.same("new: look(/)", Check.look(x, 0, "/"), 0);
        MountSpaces other = new MountSpaces();
        other.mount(0, 0, 0);
        Check.same("another object has its own mounts", x.count(2), 1);
    }

    private static void counts() {
        MountSpaces x = Check.loaded("spaces;volume a(b(c),d);volume u(v);volume w;root a;"
            + "make shared /;mount u/b;make secret /b;bind/>/d;make slave /d;mount w/d/b/c;");
        x.copySpace(0, true);
        x.unmount(3);
        // 0 a shared, 1 u secret on b, 2 a slave of 1 on d, 3 w on 2 (gone); copies 4 to 7.
        int[] counts = {3, 2, 7, 1, 3, 2, 4, 8, 2};
        for (int what = 0; what < 9; what++) {
            Check.same("count(" + what + ")", x.count(what), counts[what]);
        }
        for (int what : new int[] {-1, 9, Integer.MIN_VALUE, Integer.MAX_VALUE}) {
            Check.raises("count(" + what + ")", IllegalArgumentException.class,
                () -> x.count(what));
        }
    }

    private static void volumes() {
        MountSpaces x = Check.loaded("spaces;volume a(b(c(d),e),f);volume u;root u;");
        Check.same("directories(0)", x.directories(0), 6);
        Check.same("directories(1)", x.directories(1), 1);
        int[] outers = {-1, 0, 1, 2, 1, 0};
        for (int directory = 0; directory < 6; directory++) {
            Check.same("outer(0, " + directory + ")", x.outer(0, directory), outers[directory]);
        }
        Check.same("outer(1, 0)", x.outer(1, 0), -1);
        for (int volume : new int[] {-1, 2, 4, Integer.MAX_VALUE, Integer.MIN_VALUE}) {
            Check.raises("directories(" + volume + ")", IndexOutOfBoundsException.class,
                () -> x.directories(volume));
            Check.raises("outer(" + volume + ", 0)", IndexOutOfBoundsException.class,
                () -> x.outer(volume, 0));
        }
        for (int directory : new int[] {-1, 6, 12, Integer.MAX_VALUE, Integer.MIN_VALUE}) {
            Check.raises("outer(0, " + directory + ")", IndexOutOfBoundsException.class,
                () -> x.outer(0, directory));
        }
        Check.raises("outer(1, 1)", IndexOutOfBoundsException.class, () -> x.outer(1, 1));
    }

    private static void mounts() {
        MountSpaces x = Check.loaded("spaces;volume a(b(c),d);volume u(v);root a;"
            + "bind /b>/d;mount u/b;mount u/d;");
        // 0 a, 1 a from b on d of 0, 2 u on b of 0, 3 u on b of 1.
        Check.mount(x, 0, 0, 0, 0, -1, -1, 0, 0, 0, 0);
        Check.mount(x, 1, 0, 0, 1, 0, 3, 0, 0, 0, 0);
        Check.mount(x, 2, 0, 1, 0, 0, 1, 0, 0, 0, 0);
        Check.mount(x, 3, 0, 1, 0, 1, 1, 0, 0, 0, 0);
        x.unmount(2);
        Check.same("mountAt(0)", x.mountAt(0), 0);
        Check.same("mountAt(1)", x.mountAt(1), 1);
        Check.same("mountAt(2)", x.mountAt(2), 3);
        Check.same("mountOn(0, 3)", x.mountOn(0, 3), 1);
        Check.same("mountOn(0, 1)", x.mountOn(0, 1), -1);
        Check.same("mountOn(1, 1)", x.mountOn(1, 1), 3);
        Check.same("mountOn(1, 2)", x.mountOn(1, 2), -1);
        for (int index : new int[] {-1, 3, 40, Integer.MAX_VALUE, Integer.MIN_VALUE}) {
            Check.raises("mountAt(" + index + ")", IndexOutOfBoundsException.class,
                () -> x.mountAt(index));
        }
        for (int mount : new int[] {-1, 2, 4, Integer.MAX_VALUE, Integer.MIN_VALUE}) {
            Check.raises("told(" + mount + ", 9)", NoSuchElementException.class,
                () -> x.told(mount, 9));
            Check.raises("mountOn(" + mount + ", 0)", NoSuchElementException.class,
                () -> x.mountOn(mount, 0));
        }
        for (int what : new int[] {-1, 9, Integer.MAX_VALUE, Integer.MIN_VALUE}) {
            Check.raises("told(0, " + what + ")", IllegalArgumentException.class,
                () -> x.told(0, what));
        }
        // Mount 1 has the top b: neither the root nor d is in it.
        for (int directory : new int[] {-1, 0, 3, 4, 12, Integer.MAX_VALUE, Integer.MIN_VALUE}) {
            Check.raises("mountOn(1, " + directory + ")", NoSuchElementException.class,
                () -> x.mountOn(1, directory));
        }
    }
}
