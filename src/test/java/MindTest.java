/** Promises 19 to 24, 26, 27, 30, 31, 33 and 38: what would be; nothing changes by asking. */
public final class MindTest {
    /** Free: block 1 (2 of them), 5 (5), 12 (4), 30 (7), 63 (1); file 0 has nothing yet. */
    private static final String GAPS = "a30024;a20024;a10016;p30102;p30505;p31204;p20607;p11501;";

    /**
     * Free: block 0 (4 of them), 10 (3). File 0, GREAT, would take three of the four, and then file 1 finds no
     * run for its four pages; the other way round both find one.
     */
    private static final String[] RIVALS = {
        "a30024;a20024;a10816;p30004;p31003;", "k0g;w00001;w00102;w00203;w10001;w10102;w10203;w10304;",
    };

    private MindTest() {
    }

    public static void main(String[] args) {
        scatter();
        kindBest();
        order();
        steps();
        loses();
        odds();
        first();
        two();
        which();
        lots();
        Checks.end();
    }

    /** Promise 19. */
    private static void scatter() {
        TwinTreeVolume x = Checks.made(GAPS);
        Checks.due("nothing", x.scatter(0), 0);
        Checks.due("as it is", x.scatter(3), 4);
        for (int p = 0; p < 15; p++) {
            x.says(0, p, 9);
        }
        Checks.due("three pieces", x.scatter(0), 3);
        Checks.due("still waiting", x.file(0, 3), 15);
        x.flush(0);
        Checks.due("flushed", x.file(0, 4), 3);
        Checks.due("file 4", x.scatter(4), -1);
        Checks.due("file -1", x.scatter(-1), -1);
    }

    /** Promise 20. */
    private static void kindBest() {
        TwinTreeVolume x = Checks.made(GAPS, "k0g;w00001;f0;k0p;w00102;");
        // Page 0 is at 30. NEAR, STRIPED, GREAT and CLOSE put page 1 behind it; PLAIN and HIGH at 63.
        Checks.due("scatter", x.scatter(0), 2);
        Checks.due("best", x.kindBest(0, 0), 1);
        Checks.due("extents", x.kindBest(0, 1), 1);
        Checks.due("kind stays", x.file(0, 0), 0);
        Checks.due("nothing is flushed", x.page(0, 1, 0), -9);
        Checks.due("of several the least", x.kindBest(1, 0), 0);
        Checks.due("extents of 1", x.kindBest(1, 1), 1);
        Checks.due("what 2", x.kindBest(0, 2), -2);
        Checks.due("what -1", x.kindBest(0, -1), -2);
        Checks.due("file 4", x.kindBest(4, 2), -1);
    }

    /** Promise 21. */
    private static void order() {
        TwinTreeVolume x = Checks.made(RIVALS);
        Checks.due("order", x.order(0), 2134);
        // File 3 has 2 extents, file 2 has 1, file 1 has 1 and 1 more, file 0 has 1.
        Checks.due("extents", x.order(1), 6);
        Checks.due("still waiting", x.count(1), 7);
        Checks.due("what 2", x.order(2), -2);
        Checks.due("what -1", x.order(-1), -2);
        x.kind(0, 0);
        Checks.due("of several the first", x.order(0), 1234);
        Checks.due("extents", x.order(1), 6);
    }

    /** Promise 22. */
    private static void steps() {
        TwinTreeVolume x = Checks.made(RIVALS);
        Checks.due("one piece, three pages", x.steps(0), 7);
        Checks.due("one piece, four pages", x.steps(1), 9);
        Checks.due("none", x.steps(2), 0);
        x.flush(0);
        Checks.due("two pieces, four pages", x.steps(1), 10);
        x.says(2, 0, 1);
        Checks.due("a placed page", x.steps(2), 2);
        Checks.due("file 4", x.steps(4), -1);
        Checks.due("file -1", x.steps(-1), -1);
    }

    /** Steps of file 0: page 4 is put; byte and written of page 0, which has a block; byte and written of page 4. */
    private static TwinTreeVolume atRisk() {
        return Checks.made("w00001;w00100;w00303;f0;w00011;w00405;w10007;");
    }

    /** Promises 23 and 24. */
    private static void loses() {
        TwinTreeVolume x = atRisk();
        int[] own = {2, 2, 1, 1, 1, 0, 0};
        for (int k = 0; k < own.length; k++) {
            Checks.due("loses behind " + k, x.loses(0, k, 0), own[k]);
            Checks.due("others behind " + k, x.loses(0, k, 1), 1);
        }
        Checks.due("behind 99", x.loses(0, 99, 0), 0);
        Checks.due("of another file", x.loses(2, 50, 0), 0);
        Checks.due("others of it", x.loses(2, 50, 1), 3);
        Checks.due("nothing crashed", x.count(1), 2);
        Checks.due("file 4", x.loses(4, -1, 2), -1);
        Checks.due("below", x.loses(0, -1, 2), -4);
        Checks.due("above", x.loses(0, 100, 2), -6);
        Checks.due("what 2", x.loses(0, 99, 2), -2);
        Checks.due("what -1", x.loses(0, 0, -1), -2);
        Checks.due("safe", x.safe(0), 5);
        Checks.due("safe of nothing", x.safe(2), 0);
        x.says(1, 0, 0);
        Checks.due("safe, as 0 is read anyway", x.safe(1), 0);
        x.says(1, 5, 3);
        Checks.due("safe behind all", x.safe(1), 6);
        x.punch(1, 5, 1);
        x.punch(1, 0, 1);
        x.says(3, 0, 4);
        x.says(3, 1, 0);
        Checks.due("safe with a step that loses nothing left", x.safe(3), 3);
        Checks.due("safe of file 4", x.safe(4), -1);
        Checks.due("safe of file -1", x.safe(-1), -1);
    }

    /** Promises 30 and 31. */
    private static void odds() {
        TwinTreeVolume x = atRisk();
        Checks.due("lost above", x.lost(0, 0), 7);
        Checks.due("lost below", x.lost(0, 1), 6);
        Checks.due("lost of 1 above", x.lost(1, 0), 3);
        Checks.due("lost of 1 below", x.lost(1, 1), 4);
        Checks.due("nothing lost above", x.lost(2, 0), 0);
        Checks.due("nothing lost below", x.lost(2, 1), 1);
        Checks.due("lost part 2", x.lost(0, 2), 4000000000000000002L);
        Checks.due("lost part -1", x.lost(0, -1), 4000000000000000002L);
        Checks.due("lost of file 4", x.lost(4, 2), 4000000000000000001L);
        Checks.due("sure above", x.sure(0, 0, 0), 2);
        Checks.due("sure below", x.sure(0, 0, 1), 3);
        Checks.due("sure of 4 above", x.sure(0, 4, 0), 1);
        Checks.due("sure of 4 below", x.sure(0, 4, 1), 6);
        Checks.due("sure of 3 above", x.sure(0, 3, 0), 1);
        Checks.due("sure of 3 below", x.sure(0, 3, 1), 1);
        Checks.due("sure of a hole", x.sure(2, 23, 1), 1);
        Checks.due("sure part 2", x.sure(0, 0, 2), 4000000000000000002L);
        Checks.due("sure of page 24", x.sure(0, 24, 2), 4000000000000000001L);
        Checks.due("sure of page -1", x.sure(0, -1, 0), 4000000000000000001L);
        Checks.due("sure of file 4", x.sure(4, 0, 2), 4000000000000000001L);
        Checks.due("refusals -1", x.count(11), 4);
        Checks.due("refusals -2", x.count(12), 3);
        Checks.due("still waiting", x.count(1), 2);
        // A page that was written ahead of it is read as now from its byte on.
        TwinTreeVolume y = Checks.made("w00001;w00102;f0;w00003;w00104;");
        Checks.due("4 by 5 above", y.lost(0, 0), 4);
        Checks.due("4 by 5 below", y.lost(0, 1), 5);
        Checks.due("safe ahead of the last step", y.safe(0), 3);
        // In least terms; the byte alone saves nothing where the page was not written.
        TwinTreeVolume z = Checks.made("a00001;w00009;w10005;w10106;");
        Checks.due("2 by 3 above", z.lost(0, 0), 2);
        Checks.due("2 by 3 below", z.lost(0, 1), 3);
        Checks.due("8 by 6 above", z.lost(1, 0), 4);
        Checks.due("8 by 6 below", z.lost(1, 1), 3);
    }

    /** Promise 26. */
    private static void first() {
        TwinTreeVolume x = Checks.made(RIVALS);
        Checks.due("the other one ahead", x.first(0, 1), 1);
        Checks.due("the one ahead", x.first(1, 0), 0);
        Checks.due("alike", x.first(0, 2), -9);
        Checks.due("one twice", x.first(1, 1), -1);
        Checks.due("file 4", x.first(0, 4), -1);
        Checks.due("file -1", x.first(-1, 0), -1);
        Checks.due("still waiting", x.count(1), 7);
    }

    /** Promise 27. */
    private static void two() {
        TwinTreeVolume x = Checks.made(RIVALS);
        Checks.due("the one finds its run anyway", x.two(0, 1), 0);
        Checks.due("the one must be ahead", x.two(1, 0), 10);
        Checks.due("nothing to win", x.two(2, 3), 0);
        Checks.due("one twice", x.two(2, 2), -1);
        Checks.due("file 4", x.two(4, 0), -1);
        Checks.due("file -1", x.two(0, -1), -1);
        Checks.due("still waiting", x.count(1), 7);
    }

    private static int whichOf(TwinTreeVolume x, int... places) {
        x.clear();
        Checks.row(x, places);
        return x.which(0);
    }

    /** Promise 33. */
    private static void which() {
        TwinTreeVolume x = Checks.made(GAPS, "w00001;w00102;w00203;");
        // PLAIN, NEAR, STRIPED and CLOSE take 12; GREAT takes 30; HIGH takes 13.
        Checks.due("nothing told", whichOf(x), 63);
        Checks.due("one place", whichOf(x, 12), 39);
        Checks.due("all places", whichOf(x, 12, 13, 14), 39);
        Checks.due("great", whichOf(x, 30, 31, 32), 8);
        Checks.due("high", whichOf(x, 13, 14), 16);
        Checks.due("none", whichOf(x, 12, 14), 0);
        Checks.due("no block", whichOf(x, 99), 0);
        Checks.due("more than there are", whichOf(x, 12, 13, 14, 15), -3);
        Checks.due("the row stays", x.count(6), 4);
        Checks.due("file 4", x.which(4), -1);
        Checks.due("file -1", x.which(-1), -1);
        Checks.due("kind stays", x.file(0, 0), 0);
        // A waiting page that has a block is not told.
        TwinTreeVolume y = Checks.made(GAPS, "k0g;w00001;f0;w00005;w00106;w00307;");
        Checks.due("behind page 0, or at the end", whichOf(y, 63), 17);
        Checks.due("near, striped, great, close", whichOf(y, 31), 46);
        // Page 3 has no goal, for page 2 is a hole: it takes the least run there is then.
        Checks.due("near, striped, close", whichOf(y, 31, 63), 38);
        // Behind page 1 at 31 two runs are the greatest, of five blocks each: the first.
        Checks.due("great", whichOf(y, 31, 5), 8);
        Checks.due("the row stays", y.count(6), 2);
    }

    private int z;

    private int draw(int m) {
        z = z * 1664525 + 1013904223;
        return (z & Integer.MAX_VALUE) / 256 % m;
    }

    /** Lots, played by calls on an object that goes on from its image each time. */
    private static void lotsOf(TwinTreeVolume x, int n, int seed) {
        MindTest lots = new MindTest();
        lots.z = seed;
        int extents = 0;
        int runs = 0;
        int answerOfExtents = x.lots(n, seed, 0);
        int answerOfRuns = x.lots(n, seed, 1);
        x.image();
        for (int i = 0; i < n; i++) {
            for (int j = 0; j < 8; j++) {
                int f = lots.draw(4);
                int p = lots.draw(24);
                x.says(f, p, lots.draw(100));
            }
            for (int f = 0; f < 4; f++) {
                x.flush(f);
            }
            extents += x.count(5);
            runs += x.count(3);
            x.on();
        }
        Checks.due("extents of lots " + n + ", " + seed, answerOfExtents, extents);
        Checks.due("free runs of lots " + n + ", " + seed, answerOfRuns, runs);
    }

    /** Promise 38. */
    private static void lots() {
        int[] seeds = {0, 1, -1, 20261118, Integer.MAX_VALUE, Integer.MIN_VALUE};
        for (int seed : seeds) {
            lotsOf(new TwinTreeVolume(), 1, seed);
            lotsOf(Checks.made(GAPS, "k0n;k1s;k2g;k3h;w00105;"), 20, seed);
            lotsOf(Checks.made(RIVALS), 3, seed);
            lotsOf(Checks.made("a00024;a10024;a20014;p00303;p11001;"), 7, seed);
        }
        TwinTreeVolume x = Checks.made(RIVALS);
        x.lots(20, 5, 0);
        Checks.due("nothing changes", x.count(1), 7);
        Checks.due("below", x.lots(0, 0, 2), -4);
        Checks.due("above", x.lots(21, 0, 2), -6);
        Checks.due("what 2", x.lots(20, 0, 2), -2);
        Checks.due("what -1", x.lots(1, 0, -1), -2);
    }
}
