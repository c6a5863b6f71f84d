/** Boundary cases of a volume that is told in letters: its statements, and where its fault is. */
final class EdgesOfText {
    /** Each form of a statement: h a letter that begins one, d a digit, k the letter of a kind. */
    private static final String[] STATEMENTS = {"w00000;", "a00001;", "p00001;", "f0;", "s0;", "c000;", "k0p;"};
    private static final String[] FORMS = {"hddddd;", "hddddd;", "hddddd;", "hd;", "hd;", "hddd;", "hdk;"};

    /** A volume in which nothing is free, and one in which block 5 alone is. */
    private static final String FULL = "a00024;a10024;a20016;";
    private static final String ALL_BUT_ONE = FULL + "p00501;";

    private EdgesOfText() {
    }

    static void run() {
        letters();
        forms();
        atLeastOne();
        faultsOfForm();
        faultsOfStatements();
        allOrNothing();
        become();
    }

    private static void letters() {
        Quotes.terms("A VOLUME is told in letters, one by one (96 at most): STATEMENTS, each with \";\" behind:", 2, 3);
        TwinTreeVolume x = new TwinTreeVolume();
        for (int i = 1; i <= 96; i++) {
            Checks.due("letter " + i, x.letter("k3c;".charAt((i - 1) % 4)), i);
        }
        Checks.due("a 97th", x.letter(';'), -6);
        Checks.due("96 letters", x.volume(), 24);
        Checks.due("they came", x.file(3, 0), 5);
        TwinTreeVolume cut = new TwinTreeVolume();
        for (int i = 0; i < 97; i++) {
            cut.letter("w02323;".charAt(i % 7));
        }
        Checks.due("the fourteenth statement lacks a letter", cut.volume(), -1096);
        Checks.due("without the \";\"", Checks.tell(new TwinTreeVolume(), "f0"), -1002);
        Checks.due("with it", Checks.tell(new TwinTreeVolume(), "f0;"), 1);
        Checks.due("one \";\" more", Checks.tell(new TwinTreeVolume(), "f0;;"), -1003);
    }

    private static void forms() {
        Quotes.terms("\"w\" FILE (a digit), PAGE, value (2 digits each): it is SAID;", 3);
        TwinTreeVolume x = new TwinTreeVolume();
        Checks.due("least", Checks.tell(x, "w00000;"), 1);
        Given.page("least", x, 0, 0, -9, 0, 0);
        Checks.due("greatest", Checks.tell(x, "w32399;"), 1);
        Given.page("greatest", x, 3, 23, -9, 0, 99);
        Checks.due("page ahead of value", Checks.tell(x, "w10920;"), 1);
        Given.page("page ahead of value", x, 1, 9, -9, 0, 20);
        Quotes.terms("\"a\" FILE (a digit), PAGE, n (2 digits each): AHEAD;", 3);
        TwinTreeVolume a = new TwinTreeVolume();
        Checks.due("greatest n, last page", Checks.tell(a, "a30024;a22301;"), 2);
        Given.places("greatest n", a, 3, 22, 22, 23);
        Given.places("last page", a, 2, 22, -9, 24);
        Quotes.terms("\"p\" FILE (a digit), PAGE, n (2 digits each): PUNCHED;", 3);
        Checks.due("last page, two pages", Checks.tell(a, "p32301;p30002;"), 2);
        Given.places("two pages", a, 3, 0, -9, -9, 2);
        Given.places("last page", a, 3, 22, 22, -9);
        Checks.due("greatest n", Checks.tell(a, "p30024;"), 1);
        Checks.due("greatest n", a.file(3, 1), 0);
        Quotes.terms("\"f\" FILE (a digit): FLUSHED;", 3);
        Checks.due("flushed", Checks.tell(x, "f3;"), 1);
        Given.page("flushed", x, 3, 23, 0, 1, -9);
        Given.page("another file is not", x, 0, 0, -9, 0, 0);
        Quotes.terms("\"s\" FILE (a digit): SETTLED;", 3);
        Checks.due("settled", Checks.tell(x, "s3;"), 1);
        Given.page("settled", x, 3, 23, 1, 1, -9);
        Quotes.terms("\"c\" FILE (a digit), k (2 digits): a CRASH;", 3);
        String[] crashes = {"c100;", "c101;", "c102;", "c103;", "c110;", "c199;"};
        int[] placed = {0, 1, 1, 1, 1, 1};
        int[] bytes = {0, 0, 77, 77, 77, 77};
        int[] written = {0, 0, 0, 1, 1, 1};
        for (int i = 0; i < crashes.length; i++) {
            TwinTreeVolume c = new TwinTreeVolume();
            Checks.due(crashes[i], Checks.tell(c, "w00001;w10077;" + crashes[i]), 3);
            Checks.due("placed by " + crashes[i], c.file(1, 1), placed[i]);
            Checks.due("byte by " + crashes[i], c.whose(0, 1), bytes[i]);
            Checks.due("written by " + crashes[i], c.file(1, 6), written[i]);
            Checks.due("nothing waits", c.file(0, 2) + c.file(1, 2), 0);
        }
        Quotes.terms("\"k\" FILE (a digit), a letter of a KIND: it is of that KIND.", 3, 13);
        for (int kind = 0; kind < 6; kind++) {
            for (int f = 0; f < 4; f++) {
                TwinTreeVolume k = new TwinTreeVolume();
                k.kind(f, kind == 0 ? 5 : 0);
                Checks.due("kind " + kind, Checks.tell(k, "k" + f + "pnsghc".charAt(kind) + ";"), 1);
                Checks.due("of that kind", k.file(f, 0), kind);
                Checks.due("another file is not", k.file((f + 1) % 4, 0), 0);
            }
        }
    }

    private static void atLeastOne() {
        Quotes.terms("At least one STATEMENT.", 3);
        TwinTreeVolume x = new TwinTreeVolume();
        Checks.due("none at first", x.volume(), -1000);
        Checks.due("one", Checks.tell(x, "f0;"), 1);
        Checks.due("none behind it", x.volume(), -1000);
    }

    private static void fault(String text, int due) {
        TwinTreeVolume x = new TwinTreeVolume();
        Checks.due("fault of " + text, Checks.tell(x, text), due);
    }

    private static void faultsOfForm() {
        Quotes.terms("FAULT: kind 1 the place of the first letter with which no VOLUME can go on (the end, if something"
                + " lacks): -1000 less the place;", 3);
        for (int i = 0; i < STATEMENTS.length; i++) {
            for (String ahead : new String[] {"", "f0;", "w32399;k3c;"}) {
                badLetters(ahead, STATEMENTS[i], FORMS[i]);
            }
        }
        // The first of two such letters; a letter that can not go on comes ahead of what lacks.
        fault("f0;x0;y", -1003);
        fault("w0x0x0;", -1002);
        fault("w0x", -1002);
        // Whole statements, but for a letter too many or too few.
        fault("w000000;", -1006);
        fault("w0000;", -1005);
        fault("f00;", -1002);
        fault("f;", -1001);
        fault("c00;", -1003);
        fault("c0000;", -1004);
        fault("k0;", -1002);
        fault("k0pp;", -1003);
        fault(" f0;", -1000);
        fault("f0; f0;", -1003);
    }

    /** Behind whole statements one that has a letter out of place, or that ends too soon, at each of its places. */
    private static void badLetters(String ahead, String statement, String form) {
        for (int at = 0; at < statement.length(); at++) {
            String begin = ahead + statement.substring(0, at);
            String end = statement.substring(at + 1);
            if (at > 0) {
                fault(begin, -1000 - begin.length());
            }
            for (char bad : badAt(form.charAt(at)).toCharArray()) {
                fault(begin + bad + end, -1000 - begin.length());
                fault(begin + bad, -1000 - begin.length());
            }
        }
    }

    private static String badAt(char form) {
        switch (form) {
            case 'h':
                return ";0 bdegjlortvxWAPFSCK\u0000\u00ff";
            case 'd':
                return "/:;apk \u0000\u00ff";
            case 'k':
                return "0;abdfimoqrtwPNSGHC\u0000\u00ff";
            default:
                return ":<,0pw \u0000\u00ff";
        }
    }

    private static void faultsOfStatements() {
        Quotes.terms("else kind 2 the place of the first letter of the first STATEMENT that, behind all ahead of it in the"
                + " text, is not as it must be (no such FILE, no such PAGE, n 0 or past the last PAGE, no ROOM, not to be"
                + " SETTLED): -2000 less the place.", 3);
        for (String statement : STATEMENTS) {
            String rest = statement.substring(2);
            String head = statement.substring(0, 1);
            boolean isSettled = head.equals("s");
            fault(head + "4" + rest, -2000);
            fault(head + "9" + rest, -2000);
            fault("f0;" + head + "4" + rest, -2003);
            Checks.due("file 3 is there", Checks.tell(new TwinTreeVolume(), "a30001;" + head + "3" + rest), 2);
            Checks.due("file 0 is there", Checks.tell(new TwinTreeVolume(), (isSettled ? "a00001;" : "") + statement),
                    isSettled ? 2 : 1);
        }
        fault("w02400;", -2000);
        fault("w09900;", -2000);
        fault("a02401;", -2000);
        fault("a09901;", -2000);
        fault("p02401;", -2000);
        fault("p09901;", -2000);
        fault("a00000;", -2000);
        fault("a02300;", -2000);
        fault("p00000;", -2000);
        fault("p02300;", -2000);
        fault("a00025;", -2000);
        fault("a02302;", -2000);
        fault("a00123;a00124;", -2007);
        fault("p00025;", -2000);
        fault("p02302;", -2000);
        fault("p00199;", -2000);
        roomInText();
        settledInText();
        inOrder();
    }

    private static void roomInText() {
        Checks.due("room 1 for one that is said", Checks.tell(new TwinTreeVolume(), ALL_BUT_ONE + "w00500;"), 5);
        fault(ALL_BUT_ONE + "w00500;w00501;w30000;", -2042);
        fault(FULL + "w30000;", -2021);
        Checks.due("room 0 for one that is placed", Checks.tell(new TwinTreeVolume(), FULL + "w00000;w21500;"), 5);
        fault(FULL + "a21601;", -2021);
        Checks.due("room 0 for no hole", Checks.tell(new TwinTreeVolume(), FULL + "a21501;"), 4);
        Checks.due("room 1 for one hole", Checks.tell(new TwinTreeVolume(), ALL_BUT_ONE + "a21502;"), 5);
        fault(ALL_BUT_ONE + "a21503;", -2028);
        fault(ALL_BUT_ONE + "w30000;a00501;", -2035);
        Checks.due("a punched one makes room", Checks.tell(new TwinTreeVolume(), FULL + "p10001;w30000;f3;"), 6);
        Checks.due("a crash makes room", Checks.tell(new TwinTreeVolume(), ALL_BUT_ONE + "w30000;c000;a00501;"), 7);
    }

    private static void settledInText() {
        fault("s0;", -2000);
        fault("w00000;s0;", -2007);
        Checks.due("one placed page", Checks.tell(new TwinTreeVolume(), "w00000;f0;s0;"), 3);
        fault(FULL + "s0;", -2021);
        fault(ALL_BUT_ONE + "s0;", -2028);
        Checks.due("a run of 12 for 12", Checks.tell(new TwinTreeVolume(), FULL + "p01212;s0;"), 5);
        fault(FULL + "p01212;a21601;s0;", -2035);
        fault("a00002;p00001;p00101;s0;", -2021);
    }

    private static void inOrder() {
        // The first of two; one of kind 1 comes ahead of one of kind 2, wherever it stands.
        fault("f0;w40000;s0;", -2003);
        fault("f0;s0;w40000;", -2003);
        fault("w40000;x", -1007);
        fault("w40000;f", -1008);
        fault("s0;f0", -1005);
        // As it must be behind what is ahead of it in the text, not behind what was there.
        Checks.due("placed ahead of it", Checks.tell(new TwinTreeVolume(), "a00001;s0;"), 2);
        TwinTreeVolume x = Given.at(5, 10, 3);
        Checks.due("punched ahead of it", Checks.tell(x, "p00001;s0;"), -2007);
        Checks.due("what was there counts", Checks.tell(x, "s0;"), 1);
        Checks.due("what is behind it does not", Checks.tell(new TwinTreeVolume(), "s0;a00001;"), -2000);
    }

    private static void allOrNothing() {
        Quotes.terms("Without FAULT all of it comes, with one nothing.", 3);
        String all = "k1g;w00005;w00106;f0;w00107;a10202;p00001;s0;w20308;";
        TwinTreeVolume x = new TwinTreeVolume();
        Checks.due("without fault", Checks.tell(x, all), 9);
        Checks.due("kind", x.file(1, 0), 3);
        Given.page("settled, and waits", x, 0, 1, 0, 1, 7);
        Checks.due("its byte", x.whose(0, 1), 6);
        Given.page("punched", x, 0, 0, -9, 0, -9);
        Given.places("ahead", x, 1, 2, 2, 3);
        Given.page("said", x, 2, 3, -9, 0, 8);
        for (String fault : new String[] {"s3;", "x", "f0", "w02400;"}) {
            TwinTreeVolume y = new TwinTreeVolume();
            y.says(3, 0, 1);
            Checks.holds("a fault behind it", Checks.tell(y, all + fault) <= -1000);
            Checks.due("no kind", y.file(1, 0), 0);
            Checks.due("no block", y.count(0), 64);
            Checks.due("no byte", y.whose(0, 1) + y.whose(1, 1), 0);
            Checks.due("no other page waits", y.count(1), 1);
            Checks.due("what waited waits", y.page(3, 0, 2), 1);
        }
        TwinTreeVolume z = new TwinTreeVolume();
        z.says(3, 0, 1);
        Checks.due("a fault behind a crash", Checks.tell(z, "c003;w99999;"), -2005);
        Checks.due("no crash", z.page(3, 0, 2), 1);
        Checks.due("a crash", Checks.tell(z, "c003;"), 1);
        Checks.due("nothing waits", z.page(3, 0, 2), -9);
    }

    private static void become() {
        Quotes.promise(3, "The letters become a VOLUME, and are no more (with a FAULT neither): how many STATEMENTS; the"
                + " FAULT (nothing is counted).");
        for (String text : new String[] {"f0;", "k1g;w00005;f0;", "x", "", "f4;", "f0;s0;", "f0;f"}) {
            TwinTreeVolume x = new TwinTreeVolume();
            x.row(7);
            int answer = Checks.tell(x, text);
            int statements = text.length() - text.replace(";", "").length();
            Checks.due("statements of " + text, answer > 0 ? answer : statements, statements);
            Checks.due("the letters are no more", x.count(7), 0);
            Checks.due("the row stays", x.count(6), 1);
            for (int what = 11; what <= 16; what++) {
                Checks.due("nothing is counted of " + text, x.count(what), 0);
            }
            Checks.due("a text of its own behind it", Checks.tell(x, "k2n;k2s;"), 2);
        }
    }
}
