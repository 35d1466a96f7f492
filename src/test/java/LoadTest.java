/** Promise 3: what a setup text describes, and its errors with their offsets. */
public final class LoadTest {
    private static final String A = "spaces;volume a(b(c),d);volume u(v);root a;";

    private LoadTest() {
    }

    public static void main(String[] args) {
        good();
        statements();
        anyNames();
        replaces();
        syntax();
        unknown();
        duplicate();
        tooMany();
        impossible();
        firstError();
        Check.end("LoadTest");
    }

    private static void good() {
        MountSpaces x = new MountSpaces();
        Check.same("smallest", Check.load(x, "spaces;volume a;root a;"), 1);
        Check.same("volumes", x.count(0), 1);
        Check.same("many spaces", Check.load(x,
            "  spaces  ;  volume  a  (  b  (  c  )  ,  d  )  ;  root  a  ;  mount  a  /  b  ;  "), 2);
        Check.same("directories", x.directories(0), 4);
        Check.same("few spaces", Check.load(x,
            "spaces;volume a(b(c),d);root a;mount a/b/c;bind/d>/d;make slave/;"), 3);
        Check.same("four volumes", Check.load(x,
            "spaces;volume a;volume b;volume c;volume d;root d;"), 1);
        Check.same("volumes", x.count(0), 4);
        Check.same("root d", x.told(0, 1), 3);
        Check.same("twelve directories", Check.load(x,
            "spaces;volume a(b,c,d,e,f,g,h,i,j,k,l);root a;"), 1);
        Check.same("directories", x.directories(0), 12);
        Check.same("five parentheses", Check.load(x,
            "spaces;volume a(b(c(d(e(f)))),g(h(i(j(k)))));root a;"), 1);
        Check.same("outer of k", x.outer(0, 10), 9);
        Check.same("outer of g", x.outer(0, 6), 0);
        Check.same("equal names in different directories", Check.load(x,
            "spaces;volume a(a(a),b(a));volume b(a);root b;"), 1);
    }

    private static void statements() {
        MountSpaces x = Check.loaded(A + "make shared /;mount u/b;bind/b>/d;make slave/d;");
        // bind takes the u that is on b; its copy on d has the group 2 of it.
        Check.mount(x, 0, 0, 0, 0, -1, -1, 1, 0, 0, 0);
        Check.mount(x, 1, 0, 1, 0, 0, 1, 2, 0, 0, 0);
        Check.mount(x, 2, 0, 1, 0, 0, 3, 0, 2, 0, 0);
        x = Check.loaded(A + "make secret/;mount u/;mount a/v;make shared/v;make private/v;");
        Check.mount(x, 0, 0, 0, 0, -1, -1, 0, 0, 1, 0);
        Check.mount(x, 1, 0, 1, 0, 0, 0, 0, 0, 0, 0);
        Check.mount(x, 2, 0, 0, 0, 1, 1, 0, 0, 0, 0);
        Check.same("a group that is gone stays used", x.count(8), 1);
        x = Check.loaded(A + "bind/b>/d;mount u/d/c;");
        Check.mount(x, 1, 0, 0, 1, 0, 3, 0, 0, 0, 0);
        Check.mount(x, 2, 0, 1, 0, 1, 2, 0, 0, 0, 0);
    }

    private static void anyNames() {
        MountSpaces x = Check.loaded("spaces;volume volume(root,mount(bind,make),spaces);"
            + "volume root;volume shared(secret,slave);root volume;mount root/root;"
            + "mount shared/mount/bind;bind/mount/bind/secret>/spaces;make secret/mount;"
            + "make slave/spaces;");
        Check.same("mounts", x.count(2), 4);
        Check.mount(x, 3, 0, 2, 1, 0, 5, 0, 0, 0, 0);
        Check.same("the root is secret", x.told(0, 7), 1);
        Check.same("names of six letters", Check.load(x,
            "spaces;volume abcdef(uvwxyz);root abcdef;mount abcdef/uvwxyz;"), 2);
        Check.same("the seventh letter counts", Check.look(x, 0, "/uvwxy"), -13);
    }

    private static void replaces() {
        MountSpaces x = Check.loaded(A + "make shared/;mount u/b;");
        x.copySpace(0, false);
        x.mount(0, 3, 1);
        long before = x.checksum();
        Check.same("an error", Check.load(x, A + "make shared/;mount u/b;mount u/x;"), -13);
        Check.same("leaves all data", x.checksum(), before);
        Check.same("load", Check.load(x, A + "make shared/d;"), 1);
        Check.same("spaces", x.count(1), 1);
        Check.same("made so far", x.count(7), 1);
        Check.same("groups", x.count(8), 1);
        Check.same("mount(0, 1, 1)", x.mount(0, 1, 1), 1);
        Check.same("numbers begin anew", x.mountAt(1), 1);
        Check.same("its group", x.told(1, 5), 2);
    }

    /** Loads the text in front of the mark ^, and what is behind it; the error is at the mark. */
    private static void error(int code, String marked) {
        int at = marked.indexOf('^');
        String text = marked.substring(0, at) + marked.substring(at + 1);
        MountSpaces x = new MountSpaces();
        long before = x.checksum();
        Check.same("load " + marked, Check.load(x, text), code);
        Check.same("errorOffset of " + marked, x.errorOffset(), at);
        Check.same("checksum after " + marked, x.checksum(), before);
        Check.same("undo after " + marked, x.undo(), -1);
    }

    private static void syntax() {
        String[] texts = {"^", "   ^", "^x", "^;", "^space;", "^spacesx;", "^Spaces;", "spaces^",
            "spaces  ^", "spaces^,", "spaces;^", "spaces; ^root a;", "spaces;^volumes a;",
            "spaces;volume^", "spaces;volume ^;", "spaces;volume ^abcdefg;", "spaces;volume ^1;",
            "spaces;volume a^1;", "spaces;volume a^", "spaces;volume a ^b;", "spaces;volume a(^);",
            "spaces;volume a(^(b));", "spaces;volume a(b^", "spaces;volume a(b^;",
            "spaces;volume a(b,^);", "spaces;volume a(b,^", "spaces;volume a(b ^c);",
            "spaces;volume a(b)^(c);", "spaces;volume a(b)^);", "spaces;volume a(b(c)^;",
            "spaces;volume a(^bbbbbbb);", "spaces;volume a;^", "spaces;volume a;^mount a/;",
            "spaces;volume a;^roots a;", "spaces;volume a;root^", "spaces;volume a;root ^;",
            "spaces;volume a;root ^aaaaaaa;", "spaces;volume a;root a^", "spaces;volume a;root a^/",
            A + "^;", A + "^root a;", A + "^volume x;", A + "^mounts u/;", A + "mount ^/;",
            A + "mount u^;", A + "mount u ^b;", A + "mount u/^/;", A + "mount u/b^", A + "mount u/b/^;",
            A + "mount u/b^,", A + "mount u/b ^c;", A + "mount u/^bbbbbbb;", A + "mount ^private/;",
            A + "mount u/b^>/d;", A + "bind^;", A + "bind />^>/d;",
            A + "bind /b^;", A + "bind /b>^;", A + "bind /b>^d;", A + "bind /b>/d^>/;",
            A + "make^", A + "make ^/;", A + "make ^public /;", A + "make ^sharedx /;",
            A + "make ^share /;", A + "make shared^;", A + "make shared ^a;", A + "make shared /^",
            A + "make shared /; ^?", A + "^makeshared /;", A + "mount u/b;^;", A + "^\n",
            "spaces;volume a(b(c(d(e^", "spaces;volume a(b(c(d(e(^(f"};
        for (String text : texts) {
            error(-12, text);
        }
    }

    private static void unknown() {
        error(-13, "spaces;volume a;root ^b;");
        error(-13, "spaces;volume a(b);root ^b;mount x/;");
        error(-13, A + "mount ^x/;");
        error(-13, A + "mount ^x");
        error(-13, A + "mount u/^x;");
        error(-13, A + "mount u/^c;");
        error(-13, A + "mount u/b/^d;");
        error(-13, A + "mount u/b/c/^c;");
        error(-13, A + "mount u / b / ^v ;");
        error(-13, A + "mount u/b;mount u/b/^c;");
        error(-13, A + "mount u/;mount u/^b;");
        error(-13, A + "bind /b>/^x;");
        error(-13, A + "bind /^x>/x;");
        error(-13, A + "bind /b>/d;mount u/d/^b;");
        error(-13, A + "make secret /^u;");
        error(-13, A + "make secret /^make");
    }

    private static void duplicate() {
        error(-14, "spaces;volume a;volume ^a;root a;");
        error(-14, "spaces;volume a;volume b;volume c;volume ^b(");
        error(-14, "spaces;volume a(b,^b);root a;");
        error(-14, "spaces;volume a(b(c,d,^c));root a;");
        error(-14, "spaces;volume a(b(c),d(c,^c));root a;");
        error(-14, "spaces;volume a(b,c,d,e,f,g,h,i,j,k,l,^b);root a;");
    }

    private static void tooMany() {
        error(-15, "spaces;volume a;volume b;volume c;volume d;^volume e;root a;");
        error(-15, "spaces;volume a;volume b;volume c;volume d; ^volume a;root a;");
        error(-15, "spaces;volume a;volume b;volume c;volume d;^volume");
        error(-15, "spaces;volume a(b,c,d,e,f,g,h,i,j,k,l,^m);root a;");
        error(-15, "spaces;volume a(b(c(d(e),f),g),h(i),j,k,l(^m");
        error(-15, "spaces;volume a(b(c(d(e(f^(g))))));root a;");
        error(-15, "spaces;volume a(b,c(d(e(f(g^(");
        error(-12, "spaces;volume a(b,c,d,e,f,g,h,i,j,k,l,^mmmmmmm);root a;");
        error(-12, "spaces;volume a;volume b;volume c;volume d;^volumes e;");
    }

    private static void impossible() {
        error(-16, A + "make secret/;bind />/b^;");
        error(-16, A + "make secret/;bind /b>/d ^;");
        // Each bind of the root is a follower of it, too: 2, 4, 8, 16, 32 mounts, then too many.
        String text = "spaces;volume a(b,c,d,e,f,g);root a;make shared/;";
        String more = "bind/>/b;bind/>/c;bind/>/d;bind/>/e;bind/>/f;";
        MountSpaces x = Check.loaded(text + more);
        Check.same("mounts of " + more, x.count(2), 32);
        error(-16, text + more + "bind/>/g^;");
        error(-16, text + more + "bind/>/g^;;");
        error(-12, text + more + "bind/>/g^,");
        error(-12, text + more + "bind/>/g^");
        String stack = "spaces;volume a(b);root a;" + "mount a/;".repeat(39);
        Check.same("a stack of mounts", Check.loaded(stack).count(2), 40);
        error(-16, stack + "mount a/b^;mount x/;");
    }

    private static void firstError() {
        error(-13, "spaces;volume a;root ^b;mount");
        error(-14, "spaces;volume a;volume ^a;root b;");
        error(-12, "spaces;volume a^?;volume a;");
        error(-13, A + "mount ^x/;;;");
        error(-16, A + "make secret/;bind />/b^;mount x/;");
        error(-12, A + "make secret/;bind />/b ^,");
    }
}
