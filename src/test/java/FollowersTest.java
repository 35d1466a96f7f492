import java.util.NoSuchElementException;

/** Promises 14 and 15: the followers of a mount, and how many mounts would be made. */
public final class FollowersTest {
    private static final String A = "spaces;volume a(b(c),d);volume u(v);root a;make shared/;";

    private FollowersTest() {
    }

    public static void main(String[] args) {
        followers();
        wouldMake();
        wrong();
        Check.end("FollowersTest");
    }

    private static void followers() {
        MountSpaces x = Check.loaded(A);
        Check.same("alone", x.followers(0), 1);
        x.copySpace(0, false);
        Check.same("with its copy", x.followers(0), 2);
        x.copySpace(0, true);
        Check.same("with a slave", x.followers(0), 3);
        Check.same("a peer", x.followers(1), 3);
        Check.same("a slave has none", x.followers(2), 0);
        x.make(2, 1);
        Check.same("a shared slave follows, too", x.followers(0), 3);
        Check.same("but is followed by itself alone", x.followers(2), 1);
        x.copySpace(2, true);
        Check.same("the slave of the slave follows", x.followers(0), 4);
        Check.same("and also that slave", x.followers(2), 2);
        x.make(2, 2);
        Check.same("a slave that is not shared hands nothing on", x.followers(0), 3);
        x.make(2, 1);
        x.make(1, 0);
        Check.same("one that is private follows no more", x.followers(0), 2);
        x.make(0, 0);
        Check.same("nor is it followed", x.followers(0), 0);
        Check.same("nor the one before", x.followers(1), 0);
    }

    private static void wouldMake() {
        MountSpaces x = Check.loaded(A + "bind/b>/d;");
        // 1 is from b on d of 0, with the group of 0.
        Check.same("wouldMake(0, 0)", x.wouldMake(0, 0), 1);
        Check.same("wouldMake(0, 1)", x.wouldMake(0, 1), 2);
        Check.same("wouldMake(0, 2)", x.wouldMake(0, 2), 2);
        Check.same("wouldMake(0, 3)", x.wouldMake(0, 3), 0);
        Check.same("wouldMake(1, 1)", x.wouldMake(1, 1), 2);
        x.copySpace(0, true);
        Check.same("with two slaves", x.wouldMake(0, 2), 4);
        Check.same("on a slave", x.wouldMake(2, 1), 1);
        x.mount(2, 1, 1);
        Check.same("where a slave has one", x.wouldMake(0, 1), 3);
        Check.same("on that place", x.wouldMake(2, 1), 0);
        long before = x.checksum();
        x.wouldMake(0, 2);
        Check.same("nothing changes", x.checksum(), before);
        x = Check.loaded("spaces;volume a(b,c,d,e,f,g);root a;make shared/;bind/>/b;bind/>/c;"
            + "bind/>/d;bind/>/e;bind/>/f;");
        Check.same("more than there may be", x.wouldMake(0, 6), 32);
        Check.same("it is FULL", x.mount(0, 6, 0), -8);
        x.make(0, 0);
        Check.same("one alone", x.wouldMake(0, 6), 1);
    }

    private static void wrong() {
        MountSpaces x = Check.loaded(A + "bind/b>/d;");
        for (int mount : new int[] {-1, 2, 40, Integer.MAX_VALUE, Integer.MIN_VALUE}) {
            Check.raises("followers(" + mount + ")", NoSuchElementException.class,
                () -> x.followers(mount));
            Check.raises("wouldMake(" + mount + ", 0)", NoSuchElementException.class,
                () -> x.wouldMake(mount, 0));
        }
        for (int directory : new int[] {-1, 0, 3, 4, 12, Integer.MAX_VALUE, Integer.MIN_VALUE}) {
            Check.raises("wouldMake(1, " + directory + ")", NoSuchElementException.class,
                () -> x.wouldMake(1, directory));
        }
    }
}
