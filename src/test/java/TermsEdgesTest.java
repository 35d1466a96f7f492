import java.util.NoSuchElementException;

/** The boundary cases of the document's terms: volumes, mounts and what followers get. */
public final class TermsEdgesTest {
    private static final String A = "spaces;volume a(b(c),d,e);volume u(v(w));root a;";

    private TermsEdgesTest() {
    }

    public static void main(String[] args) {
        Check.choose(args);
        whole();
        mounts();
        followers();
        putting();
        Check.end("TermsEdgesTest");
    }

    private static void whole() {
        Check.edge("What it is, 512 calls after an object has been made",
            TermsEdgesTest::lastCall);
        Check.edge("Terms, a directory is below another one, however deep",
            TermsEdgesTest::below);
    }

    private static void mounts() {
        Check.edge("Terms, at most 4 name spaces, with indexes from 0", TermsEdgesTest::spaces);
        Check.edge("Terms, at most 40 mounts", TermsEdgesTest::fortyMounts);
        Check.edge("Terms, mounts are numbered from 0, no number is used again",
            TermsEdgesTest::numbers);
        Check.edge("Terms, the top of a mount is in it", TermsEdgesTest::topIsIn);
        Check.edge("Terms, what is beside or above the top is not in the mount",
            TermsEdgesTest::notIn);
        Check.edge("Terms, just one root a space", TermsEdgesTest::oneRoot);
        Check.edge("Terms, at most one mount on a place", TermsEdgesTest::onePlace);
        Check.edge("Terms, a mount is under another one at any depth", TermsEdgesTest::under);
        Check.edge("Terms, groups from 1 on", TermsEdgesTest::firstGroup);
        Check.edge("Terms, a new group was never used", TermsEdgesTest::newGroup);
        Check.edge("Terms, a mount with a group is shared, one with a master alone is not",
            TermsEdgesTest::shared);
    }

    private static void followers() {
        Check.edge("Following, a shared mount follows itself", TermsEdgesTest::itself);
        Check.edge("Following, by group and by master", TermsEdgesTest::groupAndMaster);
        Check.edge("Following, a follower that is not shared hands nothing on",
            TermsEdgesTest::unsharedFollower);
        Check.edge("Following, nobody follows up to a master", TermsEdgesTest::notUp);
        Check.edge("Following, down a chain of any length", TermsEdgesTest::chain);
        Check.edge("Following, also of other spaces", TermsEdgesTest::otherSpaces);
        Check.edge("Following, as they were before a mount is made",
            TermsEdgesTest::beforeMaking);
        Check.edge("Following, as they were before a mount is moved",
            TermsEdgesTest::beforeMoving);
        Check.edge("Following, as they were before a mount is removed",
            TermsEdgesTest::beforeRemoving);
    }

    private static void putting() {
        Check.edge("Following, if m is not shared, no more is done", TermsEdgesTest::notShared);
        Check.edge("Following, x gets a new group if it is not shared",
            TermsEdgesTest::groupOfTheNew);
        Check.edge("Following, a new group for each other old group, in ascending order",
            TermsEdgesTest::copyGroups);
        Check.edge("Following, a group also for an old group without a copy",
            TermsEdgesTest::groupWithoutCopy);
        Check.edge("Following, followers in ascending order", TermsEdgesTest::ascending);
        Check.edge("Following, if d is in f", TermsEdgesTest::ifInFollower);
        Check.edge("Following, if no mount is on the place of f", TermsEdgesTest::ifFree);
        Check.edge("Following, no copy on m itself", TermsEdgesTest::noneOnItself);
        Check.edge("Following, a copy has the volume and the top of x",
            TermsEdgesTest::volumeAndTop);
        Check.edge("Following, a copy is neither secret nor locked",
            TermsEdgesTest::neitherSecretNorLocked);
        Check.edge("Following, f has the group of m", TermsEdgesTest::inGroup);
        Check.edge("Following, otherwise by its master, with a group if f is shared",
            TermsEdgesTest::byMaster);
    }

    private static void lastCall() {
        MountSpaces x = Check.loaded("spaces;volume a(b);root a;");
        // The setup took three calls; 254 times two calls and this one more are 512.
        for (int n = 0; n < 254; n++) {
            x.mount(0, 1, 0);
            x.unmount(n + 1);
        }
        Check.same("the 512th call", x.mount(0, 1, 0), 1);
        MountSpaces y = Check.loaded("spaces;volume a(b);root a;");
        for (int n = 0; n < 254; n++) {
            y.mount(0, 1, 0);
            y.unmount(n + 1);
        }
        Check.same("count(7) as the 512th call", y.count(7), 255);
        MountSpaces z = new MountSpaces();
        for (int n = 1; n < 512; n++) {
            z.make(0, n % 2);
        }
        Check.same("count(8) as the 512th call", z.count(8), 256);
    }

    private static void below() {
        MountSpaces x = Check.loaded("spaces;volume a(b(c(d(e(f)))),g);root a;bind/b>/g;");
        for (int directory = 1; directory <= 5; directory++) {
            Check.same("mountOn(1, " + directory + ")", x.mountOn(1, directory), -1);
        }
        Check.raises("mountOn(1, 0)", NoSuchElementException.class, () -> x.mountOn(1, 0));
        Check.raises("mountOn(1, 6)", NoSuchElementException.class, () -> x.mountOn(1, 6));
        for (int directory = 0; directory <= 6; directory++) {
            Check.same("mountOn(0, " + directory + ")", x.mountOn(0, directory),
                directory == 6 ? 1 : -1);
        }
        Check.raises("mountOn(0, 7)", NoSuchElementException.class, () -> x.mountOn(0, 7));
    }

    private static void spaces() {
        MountSpaces x = Check.loaded(A);
        for (int space = 1; space <= 3; space++) {
            Check.same("copySpace", x.copySpace(0, false), space);
            Check.same("count(1)", x.count(1), space + 1);
            Check.same("seen(" + space + ")", x.seen(space), 5);
        }
        Check.same("a fifth space", x.copySpace(0, false), -8);
        Check.same("count(1)", x.count(1), 4);
        Check.raises("seen(4)", IndexOutOfBoundsException.class, () -> x.seen(4));
    }

    private static void fortyMounts() {
        MountSpaces x = Check.loaded(A + "mount u/;".repeat(38));
        Check.same("the 40th", x.mount(38, 0, 0), 1);
        Check.same("mounts", x.count(2), 40);
        Check.same("the last one", x.mountAt(39), 39);
        Check.same("the 41st", x.mount(39, 0, 0), -8);
        x.unmount(39);
        Check.same("the 40th again", x.mount(38, 0, 0), 1);
        Check.same("the 41st again", x.mount(40, 0, 0), -8);
    }

    private static void numbers() {
        MountSpaces x = Check.loaded(A + "mount u/b;mount u/d;");
        Check.same("mounts", Check.mounts(x), "0 1 2");
        x.unmount(2);
        x.mount(0, 3, 1);
        Check.same("behind the last one that is gone", Check.mounts(x), "0 1 3");
        x.unmount(1);
        x.mount(0, 1, 1);
        Check.same("behind another one that is gone", Check.mounts(x), "0 3 4");
        x.copySpace(0, false);
        x.dropSpace();
        x.mount(0, 4, 1);
        Check.same("behind a space that is gone", Check.mounts(x), "0 3 4 8");
        x.move(8, 3, 1);
        Check.same("a moved one keeps its number", Check.mounts(x), "0 3 4 8");
        x.mount(0, 1, 1);
        x.mount(4, 1, 1);
        Check.same("a refusal uses none", Check.mounts(x), "0 3 4 8 9");
        Check.raises("told(1, 0)", NoSuchElementException.class, () -> x.told(1, 0));
        Check.raises("told(2, 0)", NoSuchElementException.class, () -> x.told(2, 0));
    }

    private static void topIsIn() {
        MountSpaces x = Check.loaded(A + "bind/b>/d;bind/b/c>/e;");
        Check.same("on the top of mount 1", x.mountOn(1, 1), -1);
        Check.same("below the top of mount 1", x.mountOn(1, 2), -1);
        Check.same("on the top of mount 2", x.mountOn(2, 2), -1);
        Check.same("mount on the top", x.mount(2, 2, 1), 1);
        Check.same("it is there", x.mountOn(2, 2), 3);
    }

    private static void notIn() {
        MountSpaces x = Check.loaded(A + "bind/b>/d;bind/b/c>/e;");
        for (int directory : new int[] {-1, 0, 3, 4, 5}) {
            Check.raises("mountOn(1, " + directory + ")", NoSuchElementException.class,
                () -> x.mountOn(1, directory));
        }
        for (int directory : new int[] {-1, 0, 1, 3, 4, 5}) {
            Check.raises("mountOn(2, " + directory + ")", NoSuchElementException.class,
                () -> x.mountOn(2, directory));
        }
    }

    private static void oneRoot() {
        MountSpaces x = Check.loaded(A + "mount u/b;mount a/;mount u/;");
        x.copySpace(0, false);
        x.copySpace(1, true);
        x.unmount(3);
        int[] roots = new int[3];
        for (int i = 0; i < x.count(2); i++) {
            int mount = x.mountAt(i);
            if (x.told(mount, 3) == -1) {
                Check.same("the place of root " + mount, x.told(mount, 4), -1);
                roots[x.told(mount, 0)]++;
            } else {
                Check.same("the space of what " + mount + " is on",
                    x.told(x.told(mount, 3), 0), x.told(mount, 0));
            }
        }
        for (int space = 0; space < 3; space++) {
            Check.same("roots of space " + space, roots[space], 1);
            Check.same("unmount a root", x.unmount(space * 4), space == 2 ? -3 : -4);
        }
    }

    private static void onePlace() {
        MountSpaces x = Check.loaded(A + "mount u/b;mount u/d;");
        Check.same("mount", x.mount(0, 1, 0), -1);
        Check.same("bind", x.bind(0, 1, 0, 1), -1);
        Check.same("move", x.move(2, 0, 1), -1);
        Check.same("on the mount itself", x.mount(1, 0, 0), 1);
        Check.same("twice", x.mount(1, 0, 0), -1);
        Check.same("another directory", x.mount(1, 1, 0), 1);
        Check.same("the same directory of another mount", x.mount(3, 1, 0), 1);
        Check.same("mountOn(0, 1)", x.mountOn(0, 1), 1);
    }

    private static void under() {
        MountSpaces x = Check.loaded(A + "mount u/b;mount u/b/v;mount u/b/v/v;mount a/b/v/v/v;"
            + "mount u/d;");
        // 1 to 4 are one on another; 5 is beside them.
        Check.same("onto itself", x.move(1, 1, 2), -7);
        Check.same("onto one on it", x.move(1, 2, 2), -7);
        Check.same("two down", x.move(1, 3, 2), -7);
        Check.same("three down", x.move(1, 4, 3), -7);
        Check.same("not under it", x.move(1, 5, 1), 0);
        Check.same("still three down", x.move(1, 4, 3), -7);
        Check.same("up", x.move(4, 0, 1), 0);
        Check.same("no more under it", x.move(1, 4, 3), 0);
        MountSpaces y = Check.loaded(A + "mount u/b;".repeat(39));
        Check.same("38 down", y.move(1, 39, 1), -7);
        Check.same("1 down", y.move(38, 39, 1), -7);
    }

    private static void firstGroup() {
        MountSpaces x = new MountSpaces();
        Check.same("no group", x.told(0, 5), 0);
        Check.same("no group was used", x.count(8), 0);
        Check.same("the first group", x.make(0, 1), 1);
        Check.same("told", x.told(0, 5), 1);
        MountSpaces y = Check.loaded(A + "make slave/;make shared/b;");
        Check.same("of a text", y.told(0, 5), 1);
    }

    private static void newGroup() {
        MountSpaces x = Check.loaded(A + "mount u/b;");
        x.make(0, 1);
        x.make(1, 1);
        Check.same("the second", x.told(1, 5), 2);
        x.make(1, 0);
        x.make(1, 1);
        Check.same("2 is not used again", x.told(1, 5), 3);
        x.make(0, 0);
        x.make(1, 0);
        Check.same("none is left", x.count(3), 0);
        Check.same("the greatest one", x.count(8), 3);
        Check.same("nor is any", x.make(0, 1), 4);
        x.unmount(1);
        Check.same("its number stays used", x.count(8), 4);
    }

    private static void shared() {
        MountSpaces x = Check.loaded(A + "make shared/;");
        x.copySpace(0, true);
        Check.same("shared", x.count(3), 1);
        Check.same("with a master", x.count(4), 1);
        Check.same("followers of the slave", x.followers(1), 0);
        Check.same("what is mounted on the slave gets no group", x.mount(1, 1, 1), 1);
        Check.same("none", x.told(2, 5), 0);
        x.make(1, 1);
        Check.same("a slave that is shared, too", x.followers(1), 1);
        Check.same("shared", x.count(3), 2);
        Check.same("with a master", x.count(4), 1);
    }

    private static void itself() {
        MountSpaces x = Check.loaded(A);
        Check.same("not shared", x.followers(0), 0);
        Check.same("one mount is made", x.wouldMake(0, 1), 1);
        x.make(0, 1);
        Check.same("shared", x.followers(0), 1);
        Check.same("one mount is made all the same", x.wouldMake(0, 1), 1);
    }

    private static void groupAndMaster() {
        MountSpaces x = Check.loaded(A + "make shared/;");
        x.copySpace(0, false);
        x.copySpace(0, true);
        x.copySpace(1, true);
        // 0 and 1 group 1; 2 and 3 master 1.
        Check.same("followers(0)", x.followers(0), 4);
        Check.same("followers(1)", x.followers(1), 4);
        Check.same("followers(2)", x.followers(2), 0);
        x.make(0, 0);
        Check.same("followers(0)", x.followers(0), 0);
        Check.same("followers(1)", x.followers(1), 3);
        x.make(2, 3);
        Check.same("without a master", x.followers(1), 2);
    }

    private static void unsharedFollower() {
        MountSpaces x = Check.loaded(A + "make shared/;");
        x.copySpace(0, true);
        x.make(1, 1);
        x.copySpace(1, true);
        // 0 group 1; 1 group 2 master 1; 2 master 2.
        Check.same("by the shared slave", x.followers(0), 3);
        x.make(1, 2);
        Check.same("it has no group now", x.followers(0), 2);
        Check.same("mount", x.mount(0, 1, 1), 2);
        Check.same("none on 2", x.mountOn(2, 1), -1);
    }

    private static void notUp() {
        MountSpaces x = Check.loaded(A + "make shared/;");
        x.copySpace(0, true);
        x.make(1, 1);
        Check.same("followers of the slave", x.followers(1), 1);
        Check.same("mount on the slave", x.mount(1, 1, 1), 1);
        Check.same("none on the master", x.mountOn(0, 1), -1);
        Check.same("mount on the master", x.mount(0, 3, 1), 2);
    }

    private static void chain() {
        MountSpaces x = chained();
        Check.same("down from the first", x.followers(0), 4);
        Check.same("down from the second", x.followers(1), 3);
        Check.same("down from the third", x.followers(2), 2);
        Check.same("the last one", x.followers(3), 1);
        Check.same("mount", x.mount(0, 1, 1), 4);
        Check.mount(x, 4, 0, 1, 0, 0, 1, 5, 0, 0, 0);
        Check.mount(x, 5, 1, 1, 0, 1, 1, 6, 5, 0, 0);
        Check.mount(x, 6, 2, 1, 0, 2, 1, 7, 6, 0, 0);
        Check.mount(x, 7, 3, 1, 0, 3, 1, 8, 7, 0, 0);
        Check.same("unmount", x.unmount(5), 3);
        Check.same("the first stays", x.mountOn(0, 1), 4);
    }

    /** Four roots, each the slave of the one before it; with the groups 1 to 4. */
    private static MountSpaces chained() {
        MountSpaces x = Check.loaded(A + "make shared/;");
        for (int mount = 1; mount <= 3; mount++) {
            x.copySpace(mount - 1, true);
            x.make(mount, 1);
        }
        return x;
    }

    private static void otherSpaces() {
        MountSpaces x = Check.loaded(A + "make shared/;bind/>/b;");
        x.copySpace(0, false);
        x.copySpace(1, true);
        Check.same("all of all spaces", x.followers(2), 6);
        Check.same("mount", x.mount(3, 3, 1), 6);
        for (int mount = 0; mount < 6; mount++) {
            int made = x.mountOn(mount, 3);
            Check.same("one on " + mount, made >= 6, true);
            Check.same("its space", x.told(made, 0), x.told(mount, 0));
        }
    }

    private static void beforeMaking() {
        MountSpaces x = Check.loaded(A + "make shared/;");
        Check.same("the new one follows, but not yet", x.bind(0, 0, 0, 1), 1);
        Check.same("now it does", x.bind(0, 0, 0, 3), 2);
        Check.same("four of them", x.followers(0), 4);
        Check.same("of which two are new", x.wouldMake(0, 4), 4);
        x = Check.loaded(A + "make shared/;");
        x.copySpace(0, true);
        x.bind(0, 0, 0, 1);
        // The copy on 1 follows the new one, as its slave; both were made together.
        Check.same("two were made", x.count(2), 4);
        Check.same("followers(0)", x.followers(0), 4);
        Check.mount(x, 2, 0, 0, 0, 0, 1, 1, 0, 0, 0);
        Check.mount(x, 3, 1, 0, 0, 1, 1, 0, 1, 0, 0);
    }

    private static void beforeMoving() {
        MountSpaces x = Check.loaded(A + "mount a/b;make shared/b;mount a/d;");
        // 2 is not shared: it gets a group when it is moved onto 1.
        Check.same("no copy of what follows only then", x.move(2, 1, 4), 0);
        Check.mount(x, 2, 0, 0, 0, 1, 4, 2, 0, 0, 0);
        x = Check.loaded(A + "mount a/b;make shared/b;bind/b>/d;make slave/d;");
        // 2 has no group before, so it is taken for unshared, though it gets one.
        Check.same("a follower that is not shared as before", x.move(2, 1, 4), 1);
        Check.mount(x, 2, 0, 0, 0, 1, 4, 2, 1, 0, 0);
        Check.mount(x, 3, 0, 0, 0, 2, 4, 0, 2, 0, 0);
        Check.same("its group is no old group", x.count(8), 2);
    }

    private static void beforeRemoving() {
        MountSpaces x = Check.loaded(A + "make shared/;bind/>/b;make slave/b;make shared/b;");
        x.copySpace(0, true);
        x.mount(3, 1, 0);
        // 1, on b of 0, is a slave of 0, and 3 one of 1; 4 is on b of 3.
        Check.same("followers(0)", x.followers(0), 4);
        Check.same("3 follows by the one that is removed", x.unmount(1), 2);
        Check.same("mounts", Check.mounts(x), "0 2 3");
        Check.same("followers(0)", x.followers(0), 2);
        x = Check.loaded(A + "make shared/;bind/>/b;make slave/b;make shared/b;");
        x.copySpace(0, true);
        x.bind(0, 0, 0, 3);
        Check.same("mounts", Check.mounts(x), "0 1 2 3 4 5 6 7");
        Check.same("the removed one was of the group, too", x.unmount(4), 4);
        Check.same("mounts", Check.mounts(x), "0 1 2 3");
    }

    private static void notShared() {
        MountSpaces x = Check.loaded(A + "bind/>/b;");
        Check.same("mount", x.mount(0, 3, 1), 1);
        Check.same("none on the other one", x.mountOn(1, 3), -1);
        Check.same("no group", x.told(2, 5), 0);
        x.make(2, 1);
        Check.same("bind of a shared one", x.bind(2, 0, 0, 4), 1);
        Check.same("its group", x.told(3, 5), 1);
        Check.same("no other group", x.count(8), 1);
        Check.same("move", x.move(3, 1, 3), 0);
        Check.same("its group stays", x.told(3, 5), 1);
        Check.same("no other group", x.count(8), 1);
    }

    private static void groupOfTheNew() {
        MountSpaces x = Check.loaded(A + "make shared/;mount u/b;");
        Check.same("a new group", x.told(1, 5), 2);
        x.bind(1, 0, 0, 3);
        Check.same("a bind keeps its group", x.told(2, 5), 2);
        x.make(1, 0);
        x.bind(1, 0, 0, 4);
        Check.same("a bind without one gets one", x.told(3, 5), 3);
        Check.same("the source doesn't", x.told(1, 5), 0);
        x.make(2, 2);
        Check.same("2 is a group of 2 alone", x.told(2, 6), 0);
        x.bind(2, 0, 0, 0);
        Check.same("again a new one", x.told(4, 5), 4);
    }

    private static void copyGroups() {
        MountSpaces x = Check.loaded(A + "make shared/;");
        x.copySpace(0, true);
        x.copySpace(0, true);
        x.copySpace(0, true);
        x.make(3, 1);
        x.make(1, 1);
        x.make(2, 1);
        // 3 group 2, 1 group 3, 2 group 4: in the order of groups, not of mounts.
        Check.same("mount", x.mount(0, 1, 1), 4);
        Check.mount(x, 4, 0, 1, 0, 0, 1, 5, 0, 0, 0);
        Check.mount(x, 5, 1, 1, 0, 1, 1, 7, 5, 0, 0);
        Check.mount(x, 6, 2, 1, 0, 2, 1, 8, 5, 0, 0);
        Check.mount(x, 7, 3, 1, 0, 3, 1, 6, 5, 0, 0);
        Check.same("groups", x.count(8), 8);
        x.make(0, 1);
        Check.same("bind keeps the group for m's", x.bind(4, 0, 0, 3), 4);
        Check.same("its group", x.told(8, 5), 5);
        Check.same("a new one for 3", x.told(x.mountOn(3, 3), 5), 9);
        Check.same("a new one for 1", x.told(x.mountOn(1, 3), 5), 10);
        Check.same("a new one for 2", x.told(x.mountOn(2, 3), 5), 11);
    }

    private static void groupWithoutCopy() {
        MountSpaces x = Check.loaded(A + "make shared/;");
        x.copySpace(0, true);
        x.make(1, 1);
        x.mount(1, 1, 0);
        // 1 has the group 2, 2 on it the group 3; b of 1 is taken.
        Check.same("mount", x.mount(0, 1, 1), 1);
        Check.same("its group", x.told(3, 5), 4);
        Check.same("and one for the group 2", x.count(8), 5);
        Check.same("the next one", x.mount(0, 3, 1), 2);
        Check.same("its group", x.told(4, 5), 6);
        Check.same("the copy's group", x.told(5, 5), 7);
    }

    private static void ascending() {
        MountSpaces x = Check.loaded(A + "make shared/;");
        x.copySpace(0, false);
        x.copySpace(0, false);
        x.copySpace(0, false);
        Check.same("mount on the third", x.mount(2, 1, 1), 4);
        int[] onto = {2, 0, 1, 3};
        for (int i = 0; i < 4; i++) {
            Check.same("mount " + (4 + i) + " is on", x.told(4 + i, 3), onto[i]);
        }
    }

    private static void ifInFollower() {
        MountSpaces x = Check.loaded(A + "make shared/;bind/b>/d;bind/b/c>/e;");
        // 1 from b on d; 2 from c on e; 1 and 2 are in the group of 0.
        Check.same("the root is in 0 alone", x.wouldMake(0, 0), 1);
        Check.same("b is in 0 and 1", x.wouldMake(0, 1), 2);
        Check.same("c is in all", x.wouldMake(0, 2), 3);
        Check.same("c from the smallest", x.wouldMake(2, 2), 3);
        Check.same("mount on b", x.mount(0, 1, 1), 2);
        Check.same("there", x.mountOn(1, 1), 4);
        Check.same("mount on c", x.mount(2, 2, 1), 3);
        Check.same("there", x.mountOn(0, 2), 6);
        Check.same("and there", x.mountOn(1, 2), 7);
    }

    private static void ifFree() {
        MountSpaces x = Check.loaded(A + "make shared/;");
        x.copySpace(0, true);
        x.copySpace(0, true);
        x.mount(1, 1, 0);
        Check.same("wouldMake", x.wouldMake(0, 1), 2);
        Check.same("mount", x.mount(0, 1, 1), 2);
        Check.same("what was there stays", x.mountOn(1, 1), 3);
        Check.same("no group for it", x.told(3, 5), 0);
        Check.same("a copy on the other one", x.mountOn(2, 1), 5);
        x.mount(1, 3, 0);
        x.mount(2, 3, 0);
        Check.same("all taken", x.mount(0, 3, 1), 1);
    }

    private static void noneOnItself() {
        MountSpaces x = Check.loaded(A + "make shared/;");
        Check.same("mount", x.mount(0, 0, 0), 1);
        Check.same("mounts", x.count(2), 2);
        Check.same("bind", x.bind(0, 0, 0, 1), 1);
        Check.same("mounts", x.count(2), 3);
    }

    private static void volumeAndTop() {
        MountSpaces x = Check.loaded(A + "make shared/;mount u/b;");
        x.copySpace(0, true);
        x.bind(1, 2, 0, 3);
        Check.mount(x, 4, 0, 1, 2, 0, 3, 2, 0, 0, 0);
        Check.mount(x, 5, 1, 1, 2, 2, 3, 0, 2, 0, 0);
    }

    private static void neitherSecretNorLocked() {
        MountSpaces x = Check.loaded(A + "make shared/;");
        x.copySpace(0, true);
        x.make(1, 1);
        x.copySpace(1, true);
        // 1, locked, is a shared slave of 0; 2, locked, is a slave of 1.
        x.mount(1, 1, 1);
        Check.mount(x, 3, 1, 1, 0, 1, 1, 3, 0, 0, 0);
        Check.mount(x, 4, 2, 1, 0, 2, 1, 0, 3, 0, 0);
        x.bind(1, 1, 1, 3);
        Check.mount(x, 5, 1, 0, 1, 1, 3, 2, 1, 0, 0);
        Check.same("a copy of a bind of a locked one", x.told(6, 8), 0);
        Check.same("locked ones", x.count(6), 2);
    }

    private static void inGroup() {
        MountSpaces x = Check.loaded(A + "mount u/b;make shared/b;bind/b>/d;make slave/d;");
        x.make(0, 1);
        x.copySpace(0, false);
        x.dropSpace();
        x.copySpace(0, false);
        // The root and its copy have the group 2; 2 is a slave of the group 1.
        x.bind(2, 0, 0, 4);
        int made = x.mountOn(0, 4);
        int root = x.mountAt(3);
        int copy = x.mountOn(root, 4);
        Check.same("group", x.told(made, 5), 3);
        Check.same("master", x.told(made, 6), 1);
        Check.same("group of the copy", x.told(copy, 5), 3);
        Check.same("master of the copy", x.told(copy, 6), 1);
    }

    private static void byMaster() {
        MountSpaces x = Check.loaded(A + "mount u/b;make shared/b;bind/b>/d;make slave/d;");
        x.make(0, 1);
        x.copySpace(0, true);
        x.make(3, 1);
        x.copySpace(1, true);
        // 0 group 2; 3 group 3 master 2; 6 master 3; 2 is a slave of the group 1.
        Check.same("bind", x.bind(2, 0, 0, 4), 3);
        Check.mount(x, 9, 0, 1, 0, 0, 4, 4, 1, 0, 0);
        Check.mount(x, 10, 1, 1, 0, 3, 4, 5, 4, 0, 0);
        Check.mount(x, 11, 2, 1, 0, 6, 4, 0, 5, 0, 0);
    }
}
