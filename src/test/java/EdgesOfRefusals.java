/** Boundary cases of the refusals: the least and the greatest number of each call, in which order it refuses. */
final class EdgesOfRefusals {
    private static final int LEAST = Integer.MIN_VALUE;
    private static final int GREATEST = Integer.MAX_VALUE;
    private static final int[] FILES = {LEAST, -1, 0, 1, 2, 3, 4, GREATEST};
    private static final int[] PAGES = {LEAST, -1, 0, 23, 24, GREATEST};
    private static final int[] BLOCKS = {LEAST, -1, 0, 63, 64, GREATEST};
    private static final int[] SIZES = {LEAST, 0, 1, 64, 65, GREATEST};
    private static final int[] EITHER = {LEAST, -1, 0, 1, 2, GREATEST};
    private static final int[] VALUES = {LEAST, -1, 0, 99, 100, GREATEST};
    private static final int[] SERIES = {LEAST, -1, 0, 1, 2, 24, 25, GREATEST};

    private static final long OF_LARGER = 1000000000L;
    private static final long OF_LONGS = 4000000000000000000L;

    private interface Call {
        long of(TwinTreeVolume x, int[] a);
    }

    /** The refusal that is due; 0 if none is. */
    private interface Due {
        int of(int[] a);
    }

    private EdgesOfRefusals() {
    }

    static void run() {
        order();
        codes();
        farRefusals();
        ofLettersAndPages();
        ofChanges();
        ofRuns();
        ofMind();
        ofFractions();
        ofRows();
    }

    /** A volume with something of everything: written, waiting, promised, an image, a row, letters. 36 calls. */
    private static TwinTreeVolume rich() {
        TwinTreeVolume x = new TwinTreeVolume();
        x.kind(0, 1);
        x.kind(1, 4);
        x.kind(2, 2);
        x.kind(3, 5);
        x.ahead(3, 0, 20);
        x.ahead(2, 0, 8);
        Given.says(x, 1, 0, 31, 32, 33, 34);
        x.flush(1);
        x.punch(3, 4, 3);
        x.punch(3, 19, 1);
        x.punch(2, 1, 1);
        Given.says(x, 0, 0, 11, 12);
        x.flush(0);
        x.says(0, 0, 13);
        Given.says(x, 0, 5, 14, 0);
        x.says(1, 9, 16);
        x.says(2, 0, 17);
        x.says(3, 23, 0);
        x.image();
        x.says(1, 10, 18);
        x.punch(3, 10, 1);
        x.kind(2, 0);
        x.row(4);
        x.row(5);
        x.letter('k');
        x.letter('3');
        return x;
    }

    /** All that an object tells of itself, but for its refusals: 443 calls, the last of which use it up. */
    private static long[] look(TwinTreeVolume x) {
        long[] all = new long[443];
        int i = 0;
        for (int f = 0; f < 4; f++) {
            for (int p = 0; p < 24; p++) {
                for (int what = 0; what < 3; what++) {
                    all[i++] = x.page(f, p, what);
                }
            }
            all[i++] = x.file(f, 0);
            all[i++] = x.file(f, 4);
        }
        for (int b = 0; b < 64; b++) {
            all[i++] = x.whose(b, 0);
            all[i++] = x.whose(b, 1);
        }
        all[i++] = x.count(6);
        all[i++] = x.count(7);
        // What the row tells, what the letters tell, what the image is.
        all[i++] = x.judge(0);
        all[i++] = x.letter('g');
        all[i++] = x.letter(';');
        all[i++] = x.volume();
        all[i++] = x.file(3, 0);
        all[i++] = x.on();
        all[i++] = x.count(0);
        all[i++] = x.count(1);
        all[i++] = x.file(2, 0);
        all[i++] = x.page(1, 10, 2);
        all[i++] = x.page(3, 10, 0);
        all[i++] = x.page(0, 0, 2);
        all[i++] = x.whose(4, 1);
        all[i++] = x.whose(60, 1);
        all[i++] = x.count(5);
        all[i++] = x.count(6);
        all[i++] = x.count(7);
        return all;
    }

    private static void same(String what, TwinTreeVolume x, TwinTreeVolume y) {
        long[] ofX = look(x);
        long[] ofY = look(y);
        int i = 0;
        while (i < ofX.length && ofX[i] == ofY[i]) {
            i++;
        }
        Checks.due(what + ": nothing else changes (else what is looked at there)", i, ofX.length);
    }

    /** One refusal more of its number; none of another. */
    private static void counted(String what, TwinTreeVolume x, TwinTreeVolume y, int refusal) {
        for (int code = -1; code >= -6; code--) {
            int more = code == refusal ? 1 : 0;
            Checks.due(what + ": refusals " + code, x.count(10 - code), y.count(10 - code) + more);
        }
    }

    private static String told(String name, int[] a) {
        return name + java.util.Arrays.toString(a);
    }

    /** A call that is refused in a state of its own (some 60 calls at most behind it). */
    private static void refused(String what, TwinTreeVolume x, TwinTreeVolume twin, long answer, long due, int refusal) {
        Checks.due(what, answer, due);
        counted(what, x, twin, refusal);
        same(what, x, twin);
    }

    private static void changes(String name, Call call, Due due, int[]... values) {
        every(name, false, 0, call, due, values);
    }

    /** A call that changes nothing, whatever it answers. */
    private static void looks(String name, Call call, Due due, int[]... values) {
        every(name, true, 0, call, due, values);
    }

    private static void looksFar(String name, long base, Call call, Due due, int[]... values) {
        every(name, true, base, call, due, values);
    }

    /** The call with every mix of these values. */
    private static void every(String name, boolean looks, long base, Call call, Due due, int[]... values) {
        int mixes = 1;
        for (int[] v : values) {
            mixes *= v.length;
        }
        for (int mix = 0; mix < mixes; mix++) {
            int[] a = new int[values.length];
            int rest = mix;
            for (int i = 0; i < a.length; i++) {
                a[i] = values[i][rest % values[i].length];
                rest /= values[i].length;
            }
            one(told(name, a), looks, base, call, due.of(a), a);
        }
    }

    private static void one(String what, boolean looks, long base, Call call, int refusal, int[] a) {
        TwinTreeVolume x = rich();
        TwinTreeVolume twin = rich();
        long answer = call.of(x, a);
        if (refusal < 0) {
            Checks.due(what, answer, base == 0 ? refusal : base - refusal);
        } else if (base > 0) {
            Checks.holds(what + " is not refused", answer < base);
        }
        counted(what, x, twin, refusal);
        if (looks || refusal < 0) {
            same(what, x, twin);
        }
    }

    private static boolean out(int number, int least, int greatest) {
        return number < least || number > greatest;
    }

    private static boolean noFile(int file) {
        return out(file, 0, 3);
    }

    private static boolean noPage(int file, int page) {
        return noFile(file) || out(page, 0, 23);
    }

    private static int file(int[] a) {
        return noFile(a[0]) ? -1 : 0;
    }

    private static int fileWhat(int[] a) {
        return noFile(a[0]) ? -1 : out(a[1], 0, 1) ? -2 : 0;
    }

    private static int what(int[] a) {
        return out(a[0], 0, 1) ? -2 : 0;
    }

    private static int size(int n) {
        return n < 1 ? -4 : n > 64 ? -6 : 0;
    }

    private static int value(int v) {
        return v < 0 ? -4 : v > 99 ? -6 : 0;
    }

    private static int series(int[] a) {
        return noPage(a[0], a[1]) ? -1 : a[2] < 1 ? -4 : (long) a[1] + a[2] > 24 ? -6 : 0;
    }

    private static int pair(int[] a) {
        return noFile(a[0]) || noFile(a[1]) || a[0] == a[1] ? -1 : 0;
    }

    private static void order() {
        Quotes.terms("REFUSALS (the call answers the number, the first that fits in the order in which it tells them;"
                + " nothing changes but how many there were):", 2, 4, 5, 14, 16, 23, 25, 30, 31, 33, 38, 41);
        TwinTreeVolume x = rich();
        // Each of these is wrong in every argument.
        int[] due = {-1, -1, -1, -1, -1, -1, -2, -1, -1, -4, -4, -1, -1, -1};
        int[] answers = {
            x.page(4, 24, 3), x.file(4, 7), x.says(4, 24, -1), x.ahead(4, 24, 0), x.punch(4, 24, 0), x.kind(4, 6),
            x.byPlace(-1, 2), x.nearest(64, 0), x.loses(4, -1, 2), x.gather(0, 2), x.lots(0, 0, 2), x.which(4),
            x.crash(4, -1), x.whose(64, 2),
        };
        for (int i = 0; i < due.length; i++) {
            Checks.due("refusal " + i, answers[i], due[i]);
        }
        int[] counted = {11, 1, 0, 2, 0, 0};
        for (int i = 0; i < counted.length; i++) {
            Checks.due("refusals " + (-1 - i), x.count(11 + i), counted[i]);
        }
        same("behind all of them", x, rich());
    }

    private static void codes() {
        Quotes.terms("-1 NOBODY: no such FILE, PAGE, BLOCK, FREE RUN, one FILE twice.", 4, 5, 14, 16, 17, 26, 27);
        TwinTreeVolume x = Given.free(5, 2);
        Checks.due("no such file", x.steps(4), -1);
        Checks.due("no such page", x.read(0, 24), -1);
        Checks.due("no such block", x.nearest(64, 1), -1);
        Checks.due("no such free run", x.byPlace(1, 0), -1);
        Checks.due("one file twice", x.first(2, 2), -1);
        Checks.due("one file twice", x.two(0, 0), -1);
        Checks.due("six of them", x.count(11), 6);
        Quotes.terms("-2 OTHER: what, KIND.", 13, 18);
        Checks.due("what", x.stale(2), -2);
        Checks.due("kind", x.kind(0, 6), -2);
        Checks.due("two of them", x.count(12), 2);
        Quotes.terms("-3 STATE: it is not as it must be.", 11, 33, 36, 40);
        Checks.due("nothing to settle", x.settle(0), -3);
        Checks.due("no image", x.on(), -3);
        x.row(1);
        Checks.due("no pairs", x.forged(), -3);
        Checks.due("no such pages", x.which(0), -3);
        Checks.due("four of them", x.count(13), 4);
        Quotes.terms("-4 BELOW: a number below the least.", 2, 7, 8, 9, 12, 15, 25, 34, 38);
        long below = x.letter(-1) + x.says(0, 0, -1) + x.ahead(0, 0, 0) + x.punch(0, 0, 0) + x.crash(0, -1) + x.fit(0)
                + x.gather(0, 0) + x.row(-1) + x.lots(0, 0, 0);
        Checks.due("nine by four", below, -36);
        Checks.due("nine of them", x.count(14), 9);
        Quotes.terms("-6 ROOM: a number above the greatest, no room, no ROOM.", 2, 7, 8, 9, 12, 15, 25, 34, 38);
        long above = x.letter(256) + x.says(0, 0, 100) + x.ahead(0, 23, 2) + x.punch(0, 23, 2) + x.crash(0, 100)
                + x.fit(65) + x.gather(65, 0) + x.row(100) + x.lots(21, 0, 0);
        Checks.due("nine by six", above, -54);
        Checks.due("no ROOM", x.ahead(0, 0, 3), -6);
        for (int i = 0; i < 40; i++) {
            x.row(1);
        }
        Checks.due("no room in the row", x.row(1), -6);
        Checks.due("ten, and ten of the row", x.count(16), 20);
        Checks.due("none of -5", x.count(15), 0);
    }

    private static void farRefusals() {
        Quotes.terms("Of larger() REFUSALS are 1000000000 less them (-1 is told as 1000000001), of longs"
                + " 4000000000000000000 less them (-1 as 4000000000000000001).", 29, 30, 31, 32);
        TwinTreeVolume x = rich();
        Checks.due("larger", x.larger(4), 1000000001L);
        Checks.due("lost", x.lost(4, 0), 4000000000000000001L);
        Checks.due("lost", x.lost(0, 2), 4000000000000000002L);
        Checks.due("sure", x.sure(0, 24, 0), 4000000000000000001L);
        Checks.due("sure", x.sure(0, 0, 2), 4000000000000000002L);
        Checks.due("mean", x.mean(2), 4000000000000000002L);
        Checks.due("refusals -1", x.count(11), 3);
        Checks.due("refusals -2", x.count(12), 3);
    }

    private static void ofLettersAndPages() {
        Quotes.promise(2, "-4; -6 (255; 96, too).");
        changes("letter", (x, a) -> x.letter(a[0]), a -> a[0] < 0 ? -4 : a[0] > 255 ? -6 : 0,
                new int[] {LEAST, -1, 0, 255, 256, GREATEST});
        TwinTreeVolume full = new TwinTreeVolume();
        for (int i = 0; i < 96; i++) {
            full.letter("k2c;".charAt(i % 4));
        }
        Checks.due("a 97th", full.letter('x'), -6);
        Checks.due("a 97th, below", full.letter(-1), -4);
        Checks.due("96 stay", full.count(7), 96);
        Checks.due("refusals -6", full.count(16), 1);
        Checks.due("refusals -4", full.count(14), 1);
        Checks.due("as they were", full.volume(), 24);
        Checks.due("there is room again", full.letter('x'), 1);
        Quotes.promise(4, "-1 either; -2.");
        looks("page", (x, a) -> x.page(a[0], a[1], a[2]),
                a -> noPage(a[0], a[1]) ? -1 : out(a[2], 0, 2) ? -2 : 0,
                FILES, PAGES, new int[] {LEAST, -1, 0, 2, 3, GREATEST});
        Quotes.promise(5, "-1; -2.");
        looks("file", (x, a) -> x.file(a[0], a[1]), a -> noFile(a[0]) ? -1 : out(a[1], 0, 6) ? -2 : 0,
                FILES, new int[] {LEAST, -1, 0, 1, 2, 3, 4, 5, 6, 7, GREATEST});
        Quotes.promise(6, "-1 either.");
        looks("read", (x, a) -> x.read(a[0], a[1]), a -> noPage(a[0], a[1]) ? -1 : 0, FILES, PAGES);
    }

    private static void ofChanges() {
        Quotes.promise(7, "-1 either; -4; -6 (99; no ROOM).");
        changes("says", (x, a) -> x.says(a[0], a[1], a[2]), a -> noPage(a[0], a[1]) ? -1 : value(a[2]),
                FILES, PAGES, VALUES);
        TwinTreeVolume x = Given.free();
        TwinTreeVolume twin = Given.free();
        refused("no room", x, twin, x.says(0, 0, 5), -6, -6);
        x = Given.free(5, 1);
        twin = Given.free(5, 1);
        x.says(1, 16, 3);
        twin.says(1, 16, 3);
        refused("no ROOM, though a block is free", x, twin, x.says(3, 5, 99), -6, -6);
        Quotes.promise(8, "-1 either; -4 (n below 1); -6 (past the last PAGE; no ROOM).");
        changes("ahead", (y, a) -> y.ahead(a[0], a[1], a[2]), EdgesOfRefusals::series, FILES, PAGES, SERIES);
        x = Given.free(5, 3);
        twin = Given.free(5, 3);
        refused("no room", x, twin, x.ahead(0, 0, 4), -6, -6);
        x = Given.free(5, 3);
        twin = Given.free(5, 3);
        x.says(1, 16, 3);
        twin.says(1, 16, 3);
        refused("no ROOM, though blocks are free", x, twin, x.ahead(0, 0, 3), -6, -6);
        Quotes.promise(9, "-1 either; -4 (n below 1); -6 past the last PAGE.");
        changes("punch", (y, a) -> y.punch(a[0], a[1], a[2]), EdgesOfRefusals::series, FILES, PAGES, SERIES);
        Quotes.promise(10, "-1.");
        changes("flush", (y, a) -> y.flush(a[0]), EdgesOfRefusals::file, FILES);
        Quotes.promise(11, "-1; -3 it can not be.");
        changes("settle", (y, a) -> y.settle(a[0]), EdgesOfRefusals::file, FILES);
        x = Given.free(5, 9);
        twin = Given.free(5, 9);
        refused("no placed page", x, twin, x.settle(0), -3, -3);
        x = Given.at(20, 5, 1, 7, 1);
        twin = Given.at(20, 5, 1, 7, 1);
        x.ahead(0, 9, 1);
        twin.ahead(0, 9, 1);
        refused("no run for two", x, twin, x.settle(0), -3, -3);
        Quotes.promise(12, "-1; -4; -6 99.");
        changes("crash", (y, a) -> y.crash(a[0], a[1]), a -> noFile(a[0]) ? -1 : value(a[1]), FILES, VALUES);
        Quotes.promise(13, "-1; -2.");
        changes("kind", (y, a) -> y.kind(a[0], a[1]), a -> noFile(a[0]) ? -1 : out(a[1], 0, 5) ? -2 : 0,
                FILES, new int[] {LEAST, -1, 0, 5, 6, GREATEST});
    }

    private static void ofRuns() {
        Quotes.promise(14, "-2; -1.");
        int runs = rich().count(3);
        looks("byPlace", (x, a) -> x.byPlace(a[0], a[1]),
                a -> out(a[1], 0, 1) ? -2 : out(a[0], 0, runs - 1) ? -1 : 0,
                new int[] {LEAST, -1, 0, runs - 1, runs, GREATEST}, EITHER);
        TwinTreeVolume x = Given.free();
        TwinTreeVolume twin = Given.free();
        refused("none", x, twin, x.byPlace(0, 1), -1, -1);
        Quotes.promise(15, "-4 below 1; -6 64.");
        looks("fit", (y, a) -> y.fit(a[0]), a -> size(a[0]), SIZES);
        Quotes.promise(16, "-1; -4 below 1; -6 64.");
        looks("nearest", (y, a) -> y.nearest(a[0], a[1]), a -> out(a[0], 0, 63) ? -1 : size(a[1]), BLOCKS, SIZES);
        Quotes.promise(17, "-1; -2.");
        looks("whose", (y, a) -> y.whose(a[0], a[1]), a -> out(a[0], 0, 63) ? -1 : out(a[1], 0, 1) ? -2 : 0,
                BLOCKS, EITHER);
        Quotes.promise(18, "-2.");
        looks("stale", (y, a) -> y.stale(a[0]), EdgesOfRefusals::what, EITHER);
        Quotes.promise(25, "-4 below 1; -6 64; -2.");
        looks("gather", (y, a) -> y.gather(a[0], a[1]), a -> size(a[0]) < 0 ? size(a[0]) : out(a[1], 0, 1) ? -2 : 0,
                SIZES, EITHER);
    }

    private static void ofMind() {
        Quotes.promise(19, "-1.");
        looks("scatter", (x, a) -> x.scatter(a[0]), EdgesOfRefusals::file, FILES);
        Quotes.promise(20, "-1; -2.");
        looks("kindBest", (x, a) -> x.kindBest(a[0], a[1]), EdgesOfRefusals::fileWhat, FILES, EITHER);
        Quotes.promise(21, "-2.");
        looks("order", (x, a) -> x.order(a[0]), EdgesOfRefusals::what, EITHER);
        Quotes.promise(22, "-1.");
        looks("steps", (x, a) -> x.steps(a[0]), EdgesOfRefusals::file, FILES);
        Quotes.promise(23, "-1; -4; -6 99; -2.");
        looks("loses", (x, a) -> x.loses(a[0], a[1], a[2]),
                a -> noFile(a[0]) ? -1 : value(a[1]) < 0 ? value(a[1]) : out(a[2], 0, 1) ? -2 : 0,
                FILES, VALUES, EITHER);
        Quotes.promise(24, "-1.");
        looks("safe", (x, a) -> x.safe(a[0]), EdgesOfRefusals::file, FILES);
        Quotes.promise(26, "-1 either (one twice, too).");
        looks("first", (x, a) -> x.first(a[0], a[1]), EdgesOfRefusals::pair, FILES, FILES);
        Quotes.promise(27, "-1 either (one twice, too).");
        looks("two", (x, a) -> x.two(a[0], a[1]), EdgesOfRefusals::pair, FILES, FILES);
        Quotes.promise(28, "-1.");
        looks("most", (x, a) -> x.most(a[0]), EdgesOfRefusals::file, FILES);
        Quotes.promise(38, "-4; -6 20; -2.");
        looks("lots", (x, a) -> x.lots(a[0], a[1], a[2]),
                a -> a[0] < 1 ? -4 : a[0] > 20 ? -6 : out(a[2], 0, 1) ? -2 : 0,
                new int[] {LEAST, 0, 1, 20, 21, GREATEST}, new int[] {LEAST, 0, GREATEST}, EITHER);
    }

    private static void ofFractions() {
        Quotes.promise(29, "Refused as told: -1.");
        looksFar("larger", OF_LARGER, (x, a) -> x.larger(a[0]), EdgesOfRefusals::file, FILES);
        Quotes.promise(30, "Refused as told: -1; -2.");
        looksFar("lost", OF_LONGS, (x, a) -> x.lost(a[0], a[1]), EdgesOfRefusals::fileWhat, FILES, EITHER);
        Quotes.promise(31, "Refused as told: -1 either; -2.");
        looksFar("sure", OF_LONGS, (x, a) -> x.sure(a[0], a[1], a[2]),
                a -> noPage(a[0], a[1]) ? -1 : out(a[2], 0, 1) ? -2 : 0, FILES, PAGES, EITHER);
        Quotes.promise(32, "Refused as told: -2.");
        looksFar("mean", OF_LONGS, (x, a) -> x.mean(a[0]), EdgesOfRefusals::what, EITHER);
    }

    private static void ofRows() {
        Quotes.promise(33, "-1; -3 it tells more than there are such PAGES.");
        // The row tells two; files 0 and 1 have two such pages, file 2 none, file 3 one.
        looks("which", (x, a) -> x.which(a[0]), a -> noFile(a[0]) ? -1 : a[0] > 1 ? -3 : 0, FILES);
        Quotes.promise(34, "-4; -6 (99; 32, too).");
        changes("row", (x, a) -> x.row(a[0]), a -> value(a[0]), VALUES);
        TwinTreeVolume x = new TwinTreeVolume();
        TwinTreeVolume twin = new TwinTreeVolume();
        for (int i = 0; i < 32; i++) {
            x.row(99);
            twin.row(99);
        }
        refused("a 33rd", x, twin, x.row(0), -6, -6);
        x = new TwinTreeVolume();
        for (int i = 0; i < 32; i++) {
            x.row(99);
        }
        Checks.due("a 33rd, below", x.row(-1), -4);
        Quotes.promise(35, "-1.");
        changes("judge", (y, a) -> y.judge(a[0]), EdgesOfRefusals::file, FILES);
        Quotes.promise(36, "-3 unwhole (the ROW stays).");
        x = rich();
        twin = rich();
        x.row(4);
        twin.row(4);
        refused("three numbers", x, twin, x.forged(), -3, -3);
        x = new TwinTreeVolume();
        x.row(0);
        Checks.due("one number", x.forged(), -3);
        Checks.due("the row stays", x.count(6), 1);
        x.row(64);
        Checks.due("a pair", x.forged(), -9);
        Quotes.promise(40, "-3 there is none.");
        x = Given.free(5, 3);
        twin = Given.free(5, 3);
        refused("no image", x, twin, x.on(), -3, -3);
        x.image();
        Checks.due("an image", x.on() < 0 ? 0 : 1, 1);
    }
}
