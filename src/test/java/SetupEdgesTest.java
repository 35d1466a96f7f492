/** The boundary cases of promise 3: the grammar of setup texts, and their errors. */
public final class SetupEdgesTest {
    private static final String A = "spaces;volume a(b(c),d,e);volume u(v(w));root a;";
    /** Twelve directories, the deepest one in five parentheses. */
    private static final String TWELVE = "spaces;volume a(b(c(d(e(f)))),g,h,i,j,k,l";
    private static final String FOUR = "spaces;volume a;volume b;volume c;volume d;";
    private static final String STACK = "spaces;volume a(b,c,d);root a;";

    /** Texts with an error, which must leave all as it was. */
    private static final String[] BAD = {"", "spaces;volume q(r);volume s;root q", "spaces;?",
        "spaces;volume q;root r;", "spaces;volume q(r,r);root q;", FOUR + "volume e;",
        "spaces;volume q(r);root q;make shared/;mount q/r;make secret/;bind/>/r;",
        "spaces;volume q(r);root q;make shared/;mount q/r;?",
        "spaces;volume a(b(c(d(e(f(g))))));root a;",
        "spaces;volume q(r);root q;make shared/;make secret/;bind/>/r;"};

    private SetupEdgesTest() {
    }

    public static void main(String[] args) {
        Check.choose(args);
        grammar();
        tokens();
        meaning();
        paths();
        errors();
        sameOffset();
        smallestOffset();
        afterAnError();
        Check.end("SetupEdgesTest");
    }

    private static void grammar() {
        Check.edge("Promise 3, setup: one volume at least", SetupEdgesTest::volumes);
        Check.edge("Promise 3, inside: one directory at least", SetupEdgesTest::directories);
        Check.edge("Promise 3, setup: no statement or many", SetupEdgesTest::statements);
        Check.edge("Promise 3, kind: four words", SetupEdgesTest::kinds);
        Check.edge("Promise 3, path: a slash, names between slashes", SetupEdgesTest::pathTexts);
        Check.edge("Promise 3, setup: the head and its end", SetupEdgesTest::head);
    }

    private static void tokens() {
        Check.edge("Promise 3, a name is 1 to 6 letters", SetupEdgesTest::nameLengths);
        Check.edge("Promise 3, letters a to z", SetupEdgesTest::letters);
        Check.edge("Promise 3, each run is as long as possible", SetupEdgesTest::runs);
        Check.edge("Promise 3, spaces before any token and behind the last",
            SetupEdgesTest::spaces);
        Check.edge("Promise 3, no other byte separates tokens", SetupEdgesTest::otherBytes);
        Check.edge("Promise 3, a byte over 127 is no sign and no letter",
            SetupEdgesTest::highBytes);
        Check.edge("Promise 3, each letter of a word counts", SetupEdgesTest::wrongLetters);
        Check.edge("Promise 3, any names can be names", SetupEdgesTest::anyNames);
    }

    private static void meaning() {
        Check.edge("Promise 3, indexes in the order of the text, from 1 on",
            SetupEdgesTest::indexes);
        Check.edge("Promise 3, at most 4 volumes", SetupEdgesTest::fourVolumes);
        Check.edge("Promise 3, at most 12 directories a volume", SetupEdgesTest::twelve);
        Check.edge("Promise 3, inside nests at most 5 deep", SetupEdgesTest::fiveDeep);
        Check.edge("Promise 3, directory 0 has no name", SetupEdgesTest::rootWithoutName);
        Check.edge("Promise 3, different names in the same directory",
            SetupEdgesTest::equalNames);
        Check.edge("Promise 3, root tells the volume of mount 0", SetupEdgesTest::rootVolume);
        Check.edge("Promise 3, statements one after the other", SetupEdgesTest::inOrder);
        Check.edge("Promise 3, returns the number of mounts", SetupEdgesTest::numberOfMounts);
        Check.edge("Promise 3, numbers of mounts and groups begin anew", SetupEdgesTest::anew);
        Check.edge("Promise 3, replaces all data", SetupEdgesTest::replacesAll);
    }

    private static void paths() {
        Check.edge("Promise 3, a path leads to the mount on a place, also at the beginning",
            SetupEdgesTest::beginning);
        Check.edge("Promise 3, whenever there is a mount on the present place",
            SetupEdgesTest::mountOnMount);
        Check.edge("Promise 3, a name that leads to no directory", SetupEdgesTest::noDirectory);
        Check.edge("Promise 3, a directory that is not in the mount",
            SetupEdgesTest::notInMount);
    }

    private static void errors() {
        Check.edge("Promise 3, SYNTAX_ERROR at the first byte of a token",
            SetupEdgesTest::syntaxAtToken);
        Check.edge("Promise 3, SYNTAX_ERROR at the length if the text ends too early",
            SetupEdgesTest::syntaxAtEnd);
        Check.edge("Promise 3, UNKNOWN: a name that is that of no volume",
            SetupEdgesTest::unknownVolume);
        Check.edge("Promise 3, UNKNOWN at the first letter", SetupEdgesTest::unknownLetter);
        Check.edge("Promise 3, DUPLICATE: a volume", SetupEdgesTest::duplicateVolume);
        Check.edge("Promise 3, DUPLICATE: a directory", SetupEdgesTest::duplicateDirectory);
        Check.edge("Promise 3, TOO_MANY: a 5th volume", SetupEdgesTest::fifthVolume);
        Check.edge("Promise 3, TOO_MANY: a 13th directory", SetupEdgesTest::thirteenth);
        Check.edge("Promise 3, TOO_MANY: a parenthesis inside 5 others",
            SetupEdgesTest::sixthParenthesis);
        Check.edge("Promise 3, IMPOSSIBLE: a mount that is refused",
            SetupEdgesTest::impossibleMount);
        Check.edge("Promise 3, IMPOSSIBLE: a bind that is refused",
            SetupEdgesTest::impossibleBind);
        Check.edge("Promise 3, make is never IMPOSSIBLE", SetupEdgesTest::possibleMake);
    }

    private static void sameOffset() {
        Check.edge("Promise 3, at one offset SYNTAX_ERROR before UNKNOWN",
            SetupEdgesTest::syntaxOrUnknown);
        Check.edge("Promise 3, at one offset SYNTAX_ERROR before DUPLICATE",
            SetupEdgesTest::syntaxOrDuplicate);
        Check.edge("Promise 3, at one offset SYNTAX_ERROR before TOO_MANY",
            SetupEdgesTest::syntaxOrTooMany);
        Check.edge("Promise 3, at one offset SYNTAX_ERROR before IMPOSSIBLE",
            SetupEdgesTest::syntaxOrImpossible);
        Check.edge("Promise 3, at one offset DUPLICATE before TOO_MANY",
            SetupEdgesTest::duplicateOrTooMany);
    }

    private static void smallestOffset() {
        Check.edge("Promise 3, the smallest offset: UNKNOWN", SetupEdgesTest::unknownFirst);
        Check.edge("Promise 3, the smallest offset: DUPLICATE", SetupEdgesTest::duplicateFirst);
        Check.edge("Promise 3, the smallest offset: TOO_MANY", SetupEdgesTest::tooManyFirst);
        Check.edge("Promise 3, the smallest offset: IMPOSSIBLE",
            SetupEdgesTest::impossibleFirst);
        Check.edge("Promise 3, the smallest offset: SYNTAX_ERROR", SetupEdgesTest::syntaxFirst);
    }

    private static void afterAnError() {
        Check.edge("Promise 3, an error leaves all other data unchanged",
            SetupEdgesTest::dataStay);
        Check.edge("Promise 3, a load with an error is no change", SetupEdgesTest::noChange);
        Check.edge("Promise 3, numbers are not used by a load with an error",
            SetupEdgesTest::numbersStay);
    }

    private static MountSpaces taken(String text, int mounts) {
        MountSpaces x = new MountSpaces();
        Check.same("load " + text, Check.load(x, text), mounts);
        Check.same("errorOffset of " + text, x.errorOffset(), -1);
        return x;
    }

    /** Loads the text without its mark ^; the error is due where the mark is. */
    private static void error(int code, String marked) {
        int at = marked.indexOf('^');
        MountSpaces x = new MountSpaces();
        String text = marked.substring(0, at) + marked.substring(at + 1);
        Check.same("load " + marked, Check.load(x, text), code);
        Check.same("errorOffset of " + marked, x.errorOffset(), at);
    }

    private static void volumes() {
        error(-12, "spaces;^root a;");
        error(-12, "spaces;^");
        Check.same("volumes", taken("spaces;volume a;root a;", 1).count(0), 1);
        Check.same("volumes", taken("spaces;volume a;volume b;root a;", 1).count(0), 2);
        Check.same("volumes", taken(FOUR + "root a;", 1).count(0), 4);
        error(-12, "spaces;volume a;root a;^volume b;");
    }

    private static void directories() {
        error(-12, "spaces;volume a(^);root a;");
        error(-12, "spaces;volume a(b(^));root a;");
        error(-12, "spaces;volume a(b,^);root a;");
        error(-12, "spaces;volume a(^,b);root a;");
        error(-12, "spaces;volume a(b)^(c);root a;");
        error(-12, "spaces;volume ^(b);root a;");
        error(-12, "spaces;volume a(b)^,c;root a;");
        Check.same("without", taken("spaces;volume a;root a;", 1).directories(0), 1);
        Check.same("with one", taken("spaces;volume a(b);root a;", 1).directories(0), 2);
        Check.same("with two", taken("spaces;volume a(b,c);root a;", 1).directories(0), 3);
    }

    private static void statements() {
        taken(A, 1);
        taken(A + "make shared/;", 1);
        String all = "make slave/;".repeat((600 - A.length()) / 12);
        taken(A + all, 1);
        taken(A + "mount u/;".repeat(39), 40);
        error(-12, A + "^;");
        error(-12, A + "make slave/;^;");
        error(-12, A + "^spaces;");
        error(-12, A + "^root a;");
        error(-12, A + "make^1");
    }

    private static void kinds() {
        int[] groups = {0, 1, 0, 0};
        int[] secret = {0, 0, 0, 1};
        String[] kinds = {"private", "shared", "slave", "secret"};
        for (int kind = 0; kind < 4; kind++) {
            MountSpaces x = taken(A + "make " + kinds[kind] + "/;", 1);
            Check.same("group of one made " + kinds[kind], x.told(0, 5), groups[kind]);
            Check.same("secret of one made " + kinds[kind], x.told(0, 7), secret[kind]);
        }
        for (String kind : new String[] {"privat", "privates", "share", "shareds", "slav",
            "slaves", "secre", "secrets", "locked", "master", "group", "unbind", "x"}) {
            error(-12, A + "make ^" + kind + " /;");
        }
        error(-12, A + "make ^/;");
        error(-12, A + "make ^;");
        error(-12, A + "make ^");
        error(-12, A + "make shared ^secret/;");
    }

    private static void pathTexts() {
        taken(A + "make slave/;make slave/b;make slave/b/c;", 1);
        error(-12, A + "make slave^;");
        error(-12, A + "make slave/^/;");
        error(-12, A + "make slave/b ^c;");
        error(-12, A + "make slave/b/^;");
        error(-12, A + "make slave/b/^/c;");
        error(-12, A + "make slave/b/c/^;");
        error(-12, A + "make slave ^b/c;");
        error(-12, A + "bind/b/^/d;");
        error(-12, A + "bind/b/c^;");
        error(-12, A + "bind/b/c>^d;");
        error(-12, A + "bind/b/c>^>/d;");
        error(-12, A + "bind^>/d;");
        error(-12, A + "mount u/b^>/d;");
    }

    private static void head() {
        taken("spaces;volume a;root a;", 1);
        error(-12, "^volume a;root a;");
        error(-12, "^space;volume a;root a;");
        error(-12, "^spacess;volume a;root a;");
        error(-12, "spaces ^volume a;root a;");
        error(-12, "spaces;^;volume a;root a;");
        error(-12, "spaces;volume a ^root a;");
        error(-12, "spaces;volume a;root a^");
        error(-12, "spaces;volume a;root a^,");
        error(-12, "spaces;volume a;root a ^a;");
        error(-12, "spaces;volume a;root a^(b);");
        error(-12, "spaces;volume a;^roo a;");
        error(-12, "spaces;volume a;^roots a;");
        error(-12, "spaces;^volum a;root a;");
        error(-12, "spaces;^volumes a;root a;");
    }

    private static void nameLengths() {
        MountSpaces x = taken("spaces;volume z(y);root z;mount z/y;", 2);
        Check.same("look /y", Check.look(x, 0, "/y"), 100);
        x = taken("spaces;volume zzzzzz(yyyyyy,yyyyyx);root zzzzzz;mount zzzzzz/yyyyyx;", 2);
        Check.same("look /yyyyyy", Check.look(x, 0, "/yyyyyy"), 1);
        Check.same("look /yyyyyx", Check.look(x, 0, "/yyyyyx"), 100);
        Check.same("look /yyyyy", Check.look(x, 0, "/yyyyy"), -13);
        Check.same("look /yyyyyyy", Check.look(x, 0, "/yyyyyyy"), -12);
        error(-12, "spaces;volume ^zzzzzzz;root z;");
        error(-12, "spaces;volume z(^yyyyyyy);root z;");
        error(-12, "spaces;volume z;root ^zzzzzzz;");
        error(-12, "spaces;volume z;root z;mount ^zzzzzzz/;");
        error(-12, "spaces;volume z(y);root z;mount z/^yyyyyyy;");
        error(-12, "spaces;volume z(y);root z;bind/y/^yyyyyyy>/;");
        error(-12, "spaces;volume z(y);root z;bind/y>/^yyyyyyy;");
        error(-12, "spaces;volume z(y);root z;make slave/^yyyyyyy;");
        error(-12, "spaces;volume ^" + "z".repeat(300) + ";root z;");
    }

    private static void letters() {
        taken("spaces;volume az(za);root az;mount az/za;", 2);
        for (char sign : new char[] {'`', '{', 'A', 'Z', '@', '[', '0', '9', '_', '-', 225, 0}) {
            error(-12, "spaces;volume ^" + sign + ";root a;");
            error(-12, "spaces;volume a^" + sign + ";root a;");
            error(-12, "spaces;volume a(^" + sign + ");root a;");
            error(-12, "spaces;volume a(b^" + sign + ");root a;");
            error(-12, "^" + sign + "paces;volume a;root a;");
        }
        error(-12, "^Spaces;volume a;root a;");
        error(-12, "spaces;^Volume a;root a;");
    }

    private static void runs() {
        error(-12, "spaces;^volumea;root a;");
        error(-12, "spaces;volume a;^roota;");
        error(-12, A + "^mountu/b;");
        error(-12, A + "^makeslave/b;");
        error(-12, A + "make ^slaveb/;");
        error(-13, A + "make slave/^bc;");
        error(-13, "spaces;volume a;root ^aa;");
        error(-12, "^spacesvolume;");
        taken(A + "bind/b>/d;make slave/d/c;", 2);
    }

    private static void spaces() {
        MountSpaces x = taken("   spaces   ;   volume   a   (   b   (   c   )   ,   d   )   ;"
            + "   root   a   ;   mount   a   /   b   /   c   ;   bind   /   b   >   /   d   ;"
            + "   make   shared   /   b   ;   ", 3);
        Check.same("directories", x.directories(0), 4);
        Check.same("mount 2 is on d", x.mountOn(0, 3), 2);
        taken("spaces;volume a(b(c),d);root a;mount a/b/c;bind/b>/d;make shared/b;", 3);
        taken(A + " ".repeat(600 - A.length()), 1);
        error(-12, "^spa ces;volume a;root a;");
        error(-12, "spaces;volume a ^b;root ab;");
        error(-12, "spaces;volume a;^ro ot a;");
        error(-12, "spaces;volume a(b ^b);root a;");
        error(-12, A + "mount u/b ^c;");
        error(-12, A + "make ^sha red/;");
    }

    private static void otherBytes() {
        for (char sign : new char[] {0, 8, 9, 10, 11, 12, 13, 31, 33, 160, 255}) {
            error(-12, "^" + sign + A);
            error(-12, "spaces^" + sign + ";volume a;root a;");
            error(-12, "spaces;volume^" + sign + "a;root a;");
            error(-12, "spaces;volume a(b^" + sign + ",c);root a;");
            error(-12, "spaces;volume a(b,^" + sign + "c);root a;");
            error(-12, A + "mount u^" + sign + "/b;");
            error(-12, A + "mount u/b^" + sign + ";");
            error(-12, A + "^" + sign);
            error(-12, A + "mount u/b;^" + sign);
        }
    }

    /** Each byte of a good text in turn, with 128 more than before. */
    private static void highBytes() {
        String text = "spaces;volume a(b,c);root a;bind /b>/c;make slave/b;";
        taken(text, 2);
        for (int i = 0; i < text.length(); i++) {
            char sign = (char) (text.charAt(i) + 128);
            MountSpaces x = new MountSpaces();
            Check.same("load with " + (int) sign + " at " + i,
                Check.load(x, text.substring(0, i) + sign + text.substring(i + 1)), -12);
            // A word that is cut off is no word of the grammar, but it can be a name or a kind.
            Check.same("errorOffset", x.errorOffset() <= i, true);
            Check.same("errorOffset", x.errorOffset() < i,
                Character.isLetter(text.charAt(i)) && i > 0
                && Character.isLetter(text.charAt(i - 1)));
        }
    }

    /** Each letter of a good text's words in turn, changed to another one. */
    private static void wrongLetters() {
        String text = "spaces;volume a;root a;mount a/;bind/>/;make private/;make shared/;"
            + "make slave/;make secret/;";
        taken(text, 3);
        for (int i = 0; i < text.length(); i++) {
            boolean isInWord = Character.isLetter(text.charAt(i)) && i > 0
                && (Character.isLetter(text.charAt(i - 1)) || Character.isLetter(
                    text.charAt(i + 1)));
            if (isInWord || i == 0) {
                int start = i;
                while (start > 0 && Character.isLetter(text.charAt(start - 1))) {
                    start--;
                }
                String wrong = text.substring(0, i) + (char) (text.charAt(i) ^ 1)
                    + text.substring(i + 1);
                error(-12, wrong.substring(0, start) + "^" + wrong.substring(start));
            }
        }
        String last = " ".repeat(600 - A.length() - 4) + A + "makd";
        MountSpaces x = new MountSpaces();
        Check.same("a wrong word at the end of 600 bytes", Check.load(x, last), -12);
        Check.same("errorOffset", x.errorOffset(), 596);
    }

    private static void anyNames() {
        String[] words = {"spaces", "volume", "root", "mount", "bind", "make", "shared", "slave",
            "secret"};
        for (String word : words) {
            MountSpaces x = taken("spaces;volume " + word + "(" + word + "(" + word + "));root "
                + word + ";mount " + word + "/" + word + "/" + word + ";bind/" + word + ">/"
                + word + "/" + word + "/" + word + ";make shared/" + word + ";", 3);
            Check.same("directories", x.directories(0), 3);
            Check.same("mount 2 is on mount 1", x.told(2, 3), 1);
            Check.same("mount 0 is shared", x.told(0, 5), 1);
        }
        error(-12, "spaces;volume ^private;root a;");
        error(-12, "spaces;volume a(^private);root a;");
    }

    private static void indexes() {
        MountSpaces x = taken("spaces;volume a(l(k(j),i),h(g),f);volume b(z,y(x));root b;", 1);
        int[] outers = {-1, 0, 1, 2, 1, 0, 5, 0};
        Check.same("directories", x.directories(0), 8);
        for (int directory = 0; directory < 8; directory++) {
            Check.same("outer(0, " + directory + ")", x.outer(0, directory), outers[directory]);
        }
        Check.same("directories of b", x.directories(1), 4);
        Check.same("outer(1, 1)", x.outer(1, 1), 0);
        Check.same("outer(1, 3)", x.outer(1, 3), 2);
        Check.same("look /z", Check.look(x, 0, "/z"), 1);
        Check.same("look /y", Check.look(x, 0, "/y"), 2);
        Check.same("look /y/x", Check.look(x, 0, "/y/x"), 3);
    }

    private static void fourVolumes() {
        MountSpaces x = taken("spaces;volume a;volume b(x);volume c;volume d(y,z);root d;"
            + "mount d/y;mount a/z;", 3);
        Check.same("volumes", x.count(0), 4);
        Check.same("directories(3)", x.directories(3), 3);
        Check.same("the root is of the last one", x.told(0, 1), 3);
        Check.same("mount 1 is of the last one", x.told(1, 1), 3);
        Check.same("mount 2 is of the first one", x.told(2, 1), 0);
        error(-15, "spaces;volume a;volume b(x);volume c;volume d(y,z);^volume e;root d;");
    }

    private static void twelve() {
        Check.same("in a row", taken("spaces;volume a(b,c,d,e,f,g,h,i,j,k,l);root a;", 1)
            .directories(0), 12);
        error(-15, "spaces;volume a(b,c,d,e,f,g,h,i,j,k,l,^m);root a;");
        MountSpaces x = taken(TWELVE + ");root a;", 1);
        Check.same("nested", x.directories(0), 12);
        Check.same("outer(0, 11)", x.outer(0, 11), 0);
        error(-15, TWELVE + ",^m);root a;");
        x = taken("spaces;volume a(b,c,d,e,f,g,h,i,j,k,l);volume b(b,c,d,e,f,g,h,i,j,k,l);"
            + "volume c(b,c,d,e,f,g,h,i,j,k,l);volume d(b,c,d,e,f,g,h,i,j,k,l);root d;", 1);
        for (int volume = 0; volume < 4; volume++) {
            Check.same("directories(" + volume + ")", x.directories(volume), 12);
        }
    }

    private static void fiveDeep() {
        MountSpaces x = taken("spaces;volume a(b(c(d(e(f)))),g(h(i(j(k)))));root a;", 1);
        Check.same("outer of f", x.outer(0, 5), 4);
        Check.same("outer of k", x.outer(0, 10), 9);
        Check.same("look", Check.look(x, 0, "/g/h/i/j/k"), 10);
        taken("spaces;volume a(b(c(d(e(f,g),h),i),j),k);root a;", 1);
        error(-15, "spaces;volume a(b(c(d(e(f^(g))))));root a;");
        error(-15, "spaces;volume a(b(c(d(e(f)))),g(h(i(j(k^(l))))));root a;");
        error(-15, "spaces;volume a;volume b(b(c(d(e(f^(g))))));root a;");
    }

    private static void rootWithoutName() {
        MountSpaces x = taken("spaces;volume a(a(a));root a;mount a/a;", 2);
        Check.same("look /", Check.look(x, 0, "/"), 0);
        Check.same("look /a", Check.look(x, 0, "/a"), 100);
        Check.same("look /a/a", Check.look(x, 0, "/a/a"), 101);
        Check.same("look /a/a/a", Check.look(x, 0, "/a/a/a"), 102);
        error(-13, "spaces;volume a(b);root a;mount a/^a;");
    }

    private static void equalNames() {
        MountSpaces x = taken("spaces;volume a(b(b,c(b)),c(b,c));volume b(b,c);root a;", 1);
        Check.same("directories", x.directories(0), 8);
        Check.same("look /c/b", Check.look(x, 0, "/c/b"), 6);
        Check.same("look /b/b", Check.look(x, 0, "/b/b"), 2);
        Check.same("look /b/c/b", Check.look(x, 0, "/b/c/b"), 4);
        error(-14, "spaces;volume a(b(b,c(b)),c(b,c,^b));root a;");
    }

    private static void rootVolume() {
        String volumes = "spaces;volume a(b);volume c(d);volume e(f);root ";
        for (int volume = 0; volume < 3; volume++) {
            MountSpaces x = taken(volumes + "ace".charAt(volume) + ";", 1);
            Check.mount(x, 0, 0, volume, 0, -1, -1, 0, 0, 0, 0);
            Check.same("spaces", x.count(1), 1);
            Check.same("mounts made", x.count(7), 1);
            Check.same("groups used", x.count(8), 0);
        }
    }

    private static void inOrder() {
        MountSpaces x = taken(A + "mount u/b;make shared/b;bind/b>/d;make slave/d;", 3);
        Check.mount(x, 1, 0, 1, 0, 0, 1, 1, 0, 0, 0);
        Check.mount(x, 2, 0, 1, 0, 0, 3, 0, 1, 0, 0);
        x = taken(A + "bind/b>/d;mount u/b;make shared/b;", 3);
        Check.mount(x, 1, 0, 0, 1, 0, 3, 0, 0, 0, 0);
        error(-13, A + "mount u/b/^v;mount u/b;");
        taken(A + "mount u/b;mount u/b/v;", 3);
        error(-13, A + "mount u/;mount u/^b;");
        taken(A + "make secret/;make private/;bind/b>/d;", 2);
        error(-16, A + "make secret/;bind/b>/d^;make private/;");
    }

    private static void numberOfMounts() {
        taken(A, 1);
        taken(A + "make shared/;mount u/b;bind/>/d;", 3);
        taken(A + "make shared/;bind/>/b;bind/>/d;bind/>/e;", 8);
        taken(STACK + "mount a/;".repeat(38), 39);
        taken(STACK + "mount a/;".repeat(39), 40);
    }

    private static void anew() {
        MountSpaces x = taken(A + "make shared/;mount u/b;mount u/d;", 3);
        x.copySpace(0, false);
        Check.same("load", Check.load(x, A + "make shared/;mount u/b;"), 2);
        Check.same("mounts", Check.mounts(x), "0 1");
        Check.same("made", x.count(7), 2);
        Check.same("groups", x.count(8), 2);
        Check.same("the group of mount 1", x.told(1, 5), 2);
        x.mount(0, 3, 1);
        Check.same("mounts", Check.mounts(x), "0 1 2");
        Check.same("the group of mount 2", x.told(2, 5), 3);
    }

    private static void replacesAll() {
        MountSpaces x = taken(A + "make secret/;mount u/b;make shared/b;", 2);
        x.copySpace(0, true);
        x.copySpace(0, false);
        Check.same("load", Check.load(x, "spaces;volume q(r);root q;"), 1);
        int[] counts = {1, 1, 1, 0, 0, 0, 0, 1, 0};
        for (int what = 0; what < 9; what++) {
            Check.same("count(" + what + ")", x.count(what), counts[what]);
        }
        Check.same("directories", x.directories(0), 2);
        Check.same("look /r", Check.look(x, 0, "/r"), 1);
        Check.same("look /b", Check.look(x, 0, "/b"), -13);
        Check.raises("directories(1)", IndexOutOfBoundsException.class, () -> x.directories(1));
        Check.raises("seen(1)", IndexOutOfBoundsException.class, () -> x.seen(1));
    }

    private static void beginning() {
        MountSpaces x = taken(A + "mount u/;mount a/v;make shared/v;make secret/;", 3);
        Check.mount(x, 1, 0, 1, 0, 0, 0, 0, 0, 1, 0);
        Check.mount(x, 2, 0, 0, 0, 1, 1, 1, 0, 0, 0);
        x = taken(A + "mount u/;mount a/;mount u/b;", 4);
        Check.mount(x, 2, 0, 0, 0, 1, 0, 0, 0, 0, 0);
        Check.mount(x, 3, 0, 1, 0, 2, 1, 0, 0, 0, 0);
        error(-13, A + "mount u/;make slave/^b;");
    }

    private static void mountOnMount() {
        MountSpaces x = taken(A + "mount u/b;mount a/b;mount u/b;mount a/b/v;mount u/b/v/d;", 6);
        Check.same("mount 2 is on mount 1", x.told(2, 3), 1);
        Check.same("mount 3 is on mount 2", x.told(3, 3), 2);
        Check.same("mount 4 is on mount 3", x.told(4, 3), 3);
        Check.mount(x, 5, 0, 1, 0, 4, 3, 0, 0, 0, 0);
        x = taken(A + "bind/b>/d;mount u/d;mount a/d/v;bind/d/v>/e;", 5);
        Check.mount(x, 2, 0, 1, 0, 1, 1, 0, 0, 0, 0);
        Check.mount(x, 4, 0, 0, 0, 0, 4, 0, 0, 0, 0);
    }

    private static void noDirectory() {
        error(-13, A + "make slave/^c;");
        error(-13, A + "make slave/^a;");
        error(-13, A + "make slave/^u;");
        error(-13, A + "make slave/^v;");
        error(-13, A + "make slave/b/^b;");
        error(-13, A + "make slave/b/^d;");
        error(-13, A + "make slave/b/c/^c;");
        error(-13, A + "make slave/^bb;");
        error(-13, "spaces;volume a(bb);root a;make slave/^b;");
        error(-13, "spaces;volume a(bb);root a;make slave/^bbb;");
        taken(A + "make slave/b/c;make slave/d;make slave/e;", 1);
    }

    private static void notInMount() {
        error(-13, A + "bind/b>/d;make slave/d/^b;");
        error(-13, A + "bind/b>/d;make slave/d/^d;");
        error(-13, A + "bind/b>/d;make slave/d/^e;");
        error(-13, A + "bind/b/c>/d;make slave/d/^c;");
        taken(A + "bind/b>/d;make slave/d/c;", 2);
    }

    private static void syntaxAtToken() {
        error(-12, "  ^space  ;volume a;root a;");
        error(-12, "spaces  ^,");
        error(-12, "spaces;  ^volum a;");
        error(-12, "spaces;volume  ^;");
        error(-12, "spaces;volume a  ^)");
        error(-12, "spaces;volume a  ^aaaaaaa;");
        error(-12, "spaces;volume a(  ^)");
        error(-12, "spaces;volume a(b  ^;");
        error(-12, "spaces;volume a(b(c)  ^;");
        error(-12, "spaces;volume a;  ^rood a;");
        error(-12, A + "  ^mound u/;");
        error(-12, A + "mount u  ^;");
        error(-12, A + "mount u/b  ^)");
        error(-12, A + "mount u/b  ^(");
        error(-12, A + "bind/b  ^;");
        error(-12, A + "bind/b>/d  ^>");
        error(-12, A + "make  ^;");
        error(-12, A + "make slave/b  ^,");
        error(-12, A + "make slave/b;  ^?");
    }

    private static void syntaxAtEnd() {
        String text = "spaces;volume a(b(c),d);volume u(v);root a;mount u/b;bind/b>/d;"
            + "make shared/d;";
        for (int length = 0; length < text.length(); length++) {
            boolean isWhole = length > 0 && text.charAt(length - 1) == ';'
                && length >= text.indexOf("mount");
            // What a cut leaves of a word ends in an error at the word, not at the end.
            boolean isInWord = length > 0 && Character.isLetter(text.charAt(length))
                && Character.isLetter(text.charAt(length - 1));
            if (!isWhole && !isInWord) {
                error(-12, text.substring(0, length) + "^");
                error(-12, text.substring(0, length) + "   ^");
            }
        }
        taken(text, 3);
        error(-12, "^");
        error(-12, "   ^");
    }

    private static void unknownVolume() {
        error(-13, "spaces;volume a(b);root ^b;");
        error(-13, "spaces;volume a;volume b;root ^c;");
        error(-13, "spaces;volume a;root ^aa;");
        error(-13, "spaces;volume aa;root ^a;");
        error(-13, A + "mount ^b/b;");
        error(-13, A + "mount ^uu/b;");
        taken("spaces;volume a;volume b;root b;mount a/;mount b/;", 3);
    }

    private static void unknownLetter() {
        error(-13, "spaces;volume a;root    ^xyz   ;");
        error(-13, A + "mount    ^xyz/;");
        error(-13, A + "mount u/   ^xyz;");
        error(-13, A + "mount u/b/   ^xyz/c;");
        error(-13, A + "mount u/b/c/   ^xyz");
        error(-13, A + "bind/   ^xyz>/;");
        error(-13, A + "bind/b>/   ^xyz;");
        error(-13, A + "make shared/   ^xyz;");
    }

    private static void duplicateVolume() {
        error(-14, "spaces;volume a;volume ^a;root a;");
        error(-14, "spaces;volume a;volume b;volume   ^a;root a;");
        error(-14, "spaces;volume a;volume b;volume c;volume ^a;root a;");
        error(-14, "spaces;volume a;volume b;volume c;volume ^c;root a;");
        error(-14, "spaces;volume abcdef;volume ^abcdef;root a;");
        taken("spaces;volume abcdef;volume abcde;volume bcdef;volume bbcdef;root bcdef;", 1);
        taken("spaces;volume a(b);volume b(a);root a;", 1);
    }

    private static void duplicateDirectory() {
        error(-14, "spaces;volume a(b,^b);root a;");
        error(-14, "spaces;volume a(b,c,d,   ^b);root a;");
        error(-14, "spaces;volume a(b(c,d),e(c,d),f(c,d,^c));root a;");
        error(-14, "spaces;volume a(b(c(d)),^b);root a;");
        error(-14, "spaces;volume a(b(c(d,e,^d)));root a;");
        error(-14, "spaces;volume a(b(c(d(e(f,^f)))));root a;");
        error(-14, "spaces;volume a;volume b(c,^c);root a;");
        error(-14, "spaces;volume a(abcdef,^abcdef);root a;");
        taken("spaces;volume a(abcdef,abcde,bcdef,ab,a);root a;", 1);
        taken("spaces;volume a(b,c(b,c(b,c(b))));root a;", 1);
    }

    private static void fifthVolume() {
        error(-15, FOUR + "^volume e;root a;");
        error(-15, FOUR + "   ^volume e;root a;");
        error(-15, FOUR + "^volume");
        error(-15, FOUR + "^volume ;");
        taken(FOUR + "root a;", 1);
        taken("spaces;volume a;volume b;volume c;root a;", 1);
    }

    private static void thirteenth() {
        error(-15, "spaces;volume a(b,c,d,e,f,g,h,i,j,k,l,   ^m);root a;");
        error(-15, "spaces;volume a(b,c,d,e,f,g,h,i,j,k,l(^m));root a;");
        error(-15, "spaces;volume a(b(c,d,e,f,g,h,i,j,k,l),^m);root a;");
        error(-15, "spaces;volume a(b(c,d,e,f,g,h,i,j,k,l,^m));root a;");
        error(-15, "spaces;volume a;volume b(b,c,d,e,f,g,h,i,j,k,l,^m);root a;");
        error(-15, "spaces;volume a(b,c,d,e,f,g,h,i,j,k,l,^m");
        taken("spaces;volume a(b(c,d,e,f,g,h,i,j,k,l));root a;", 1);
    }

    private static void sixthParenthesis() {
        error(-15, "spaces;volume a(b(c(d(e(f^(g))))));root a;");
        error(-15, "spaces;volume a(b(c(d(e(f   ^(g))))));root a;");
        error(-15, "spaces;volume a(b(c(d(e(f,g^(h))))));root a;");
        error(-15, "spaces;volume a(b(c(d(e(f^(");
        error(-15, "spaces;volume a(b(c(d(e(f^()");
        taken("spaces;volume a(b(c(d(e(f,g)))));root a;", 1);
        taken("spaces;volume a(b(c(d(e(f))),g(h(i(j)))));root a;", 1);
    }

    private static void impossibleMount() {
        String full = STACK + "mount a/;".repeat(39);
        taken(full, 40);
        error(-16, full + "mount a/^;");
        error(-16, full + "mount a/b  ^;");
        String shared = STACK + "bind/>/b;make shared/b;bind/b>/c;" + "mount a/d;".repeat(35);
        // Mounts 1 and 2 are in one group, on b and c; 38 mounts: two more fit, no third one.
        taken(shared, 38);
        taken(shared + "mount a/b/b;", 40);
        taken(shared + "mount a/d;", 39);
        error(-16, shared + "mount a/d;mount a/b/b^;");
        taken(shared + "mount a/d;mount a/d;", 40);
    }

    private static void impossibleBind() {
        error(-16, A + "mount u/b;make secret/b;bind/b>/d^;");
        error(-16, A + "mount u/b;make secret/b;bind/b/v>/d  ^;");
        taken(A + "mount u/b;make secret/b;bind/>/b/v;", 3);
        String full = STACK + "mount a/;".repeat(39);
        error(-16, full + "bind/>/b^;");
        taken(STACK + "mount a/;".repeat(38) + "bind/>/b;", 40);
        String shared = STACK + "bind/>/b;make shared/b;bind/b>/c;" + "mount a/d;".repeat(36);
        taken(shared, 39);
        error(-16, shared + "bind/>/b/b^;");
        taken(shared + "bind/b>/d/b;", 40);
    }

    private static void possibleMake() {
        String full = STACK + "mount a/;".repeat(39);
        for (String kind : new String[] {"private", "shared", "slave", "secret"}) {
            taken(full + "make " + kind + "/;", 40);
            taken(A + "make secret/;make " + kind + "/;make " + kind + "/;", 1);
        }
    }

    private static void syntaxOrUnknown() {
        error(-12, "spaces;volume a;root ^bbbbbbb;");
        error(-12, A + "mount ^bbbbbbb/;");
        error(-12, A + "mount u/^bbbbbbb;");
        error(-12, A + "make slave/b/^1;");
        error(-13, "spaces;volume a;root ^bbbbbb;");
        error(-13, A + "mount ^bbbbbb/;");
        error(-13, A + "mount u/^bbbbbb;");
    }

    private static void syntaxOrDuplicate() {
        error(-12, "spaces;volume aaaaaa;volume ^aaaaaaa;root a;");
        error(-12, "spaces;volume a(bbbbbb,^bbbbbbb);root a;");
        error(-14, "spaces;volume aaaaaa;volume ^aaaaaa;root a;");
        error(-14, "spaces;volume a(bbbbbb,^bbbbbb);root a;");
    }

    private static void syntaxOrTooMany() {
        error(-12, FOUR + "^volumee;root a;");
        error(-12, "spaces;volume a(b,c,d,e,f,g,h,i,j,k,l,^mmmmmmm);root a;");
        error(-12, "spaces;volume a(b,c,d,e,f,g,h,i,j,k,l,^);root a;");
        error(-12, "spaces;volume a(b(c(d(e(f)^(g)))));root a;");
        error(-12, "spaces;volume a(b(c(d(e(^(g)))));root a;");
    }

    private static void syntaxOrImpossible() {
        String refused = A + "make secret/;bind/>/b";
        error(-16, refused + "^;");
        error(-12, refused + "^");
        error(-12, refused + "   ^");
        error(-12, refused + "^>");
        error(-12, refused + " ^b;");
        error(-12, STACK + "mount a/;".repeat(39) + "mount a/^,");
        error(-12, STACK + "mount a/;".repeat(39) + "mount a/^");
    }

    private static void duplicateOrTooMany() {
        error(-14, "spaces;volume a(b,c,d,e,f,g,h,i,j,k,l,^b);root a;");
        error(-14, "spaces;volume a(b,c,d,e,f,g,h,i,j,k,l,^l);root a;");
        error(-15, "spaces;volume a(b(m),c,d,e,f,g,h,i,j,k,^l);root a;");
        error(-14, "spaces;volume a(b(m),c,d,e,f,g,h,i,j,k,^k);root a;");
        error(-15, "spaces;volume a(b(m),c,d,e,f,g,h,i,j,k,^m);root a;");
        error(-15, FOUR + "^volume a;root a;");
    }

    private static void unknownFirst() {
        error(-13, "spaces;volume a;root ^b");
        error(-13, "spaces;volume a;root ^b;mount");
        error(-13, A + "mount ^x?");
        error(-13, A + "mount u/^x?");
        error(-13, A + "make slave/^x/y;?");
        error(-13, A + "make secret/;bind/b>/^x;");
        error(-13, A + "make secret/;bind/^x>/b;");
    }

    private static void duplicateFirst() {
        error(-14, "spaces;volume a;volume ^a?");
        error(-14, "spaces;volume a;volume ^a;root x;");
        error(-14, "spaces;volume a(b,^b?");
        error(-14, "spaces;volume a(b,^b,c,d,e,f,g,h,i,j,k,l,m,n);root a;");
        error(-14, "spaces;volume a;volume b;volume c;volume ^b;volume e;root a;");
        error(-14, "spaces;volume a(b(c(d(e(f,^f(g)))))));root a;");
    }

    private static void tooManyFirst() {
        error(-15, FOUR + "^volume a?");
        error(-15, FOUR + "^volume e;root x;");
        error(-15, "spaces;volume a(b,c,d,e,f,g,h,i,j,k,l,^m,b);root a;");
        error(-15, "spaces;volume a(b,c,d,e,f,g,h,i,j,k,l,^m?");
        error(-15, "spaces;volume a(b(c(d(e(f^(g,g))))));root a;");
        error(-15, "spaces;volume a(g,h,i,j,k,l,b(c(d(e(f^(m))))));root a;");
    }

    private static void impossibleFirst() {
        error(-16, A + "make secret/;bind/>/b^;?");
        error(-16, A + "make secret/;bind/>/b^;mount x/;");
        error(-16, A + "make secret/;bind/>/b^;bind/>/d;");
        error(-16, STACK + "mount a/;".repeat(39) + "mount a/^;mount a/x;");
    }

    private static void syntaxFirst() {
        error(-12, "spaces;volume a^?;volume a;root a;");
        error(-12, "spaces;volume a^,volume a;root b;");
        error(-12, FOUR + "^?volume e;");
        error(-12, A + "^?mount x/;");
        error(-12, A + "mount u/b^?mount x/;");
        error(-12, A + "make secret/;^?bind/>/b;");
        error(-12, A + "make secret/;bind/>^x/b;");
    }

    private static MountSpaces filled() {
        MountSpaces x = Check.loaded(A + "make shared/;mount u/b;make secret/b;bind/>/d;");
        x.copySpace(0, true);
        x.copySpace(0, false);
        x.unmount(2);
        return x;
    }

    private static void dataStay() {
        for (String text : BAD) {
            MountSpaces x = filled();
            long before = x.checksum();
            Check.same("load " + text, Check.load(x, text) < 0, true);
            Check.same("checksum after " + text, x.checksum(), before);
            Check.same("the names after " + text, Check.look(x, 0, "/b/v"), 101);
            Check.same("other names after " + text, Check.look(x, 0, "/r"), -13);
            Check.same("volume 0 after " + text, x.directories(0), 5);
        }
        for (String text : BAD) {
            MountSpaces x = new MountSpaces();
            long before = x.checksum();
            Check.load(x, text);
            Check.same("checksum of a new object after " + text, x.checksum(), before);
            Check.same("look / after " + text, Check.look(x, 0, "/"), 0);
        }
    }

    private static void noChange() {
        for (String text : BAD) {
            MountSpaces x = filled();
            Check.load(x, text);
            Check.same("undo after " + text, x.undo(), 3);
            Check.same("it undoes what was before " + text, x.count(2) > 1, true);
        }
        Check.same("undo without them", filled().undo(), 3);
    }

    private static void numbersStay() {
        MountSpaces x = filled();
        int made = x.count(7);
        int groups = x.count(8);
        for (String text : BAD) {
            Check.load(x, text);
        }
        Check.same("made", x.count(7), made);
        Check.same("groups", x.count(8), groups);
        x.mount(0, 4, 1);
        Check.same("the next number", x.mountOn(0, 4), made);
        Check.same("the next group", x.told(made, 5), groups + 1);
    }
}
