/** Boundary cases of the "Terms", part II.: what is read and looked at, what would be, rows, lots and the image. */
final class EdgesOfReadings {
    private EdgesOfReadings() {
    }

    static void run() {
        read();
        byPlaceAndSize();
        fit();
        nearest();
        whose();
        depth();
        stale();
        scatter();
        kindBest();
        order();
        steps();
        loses();
        safe();
        others();
        gather();
        first();
        two();
        most();
        larger();
        lost();
        sure();
        mean();
        fractions();
        which();
        judged();
        forged();
        lots();
        draws();
        image();
    }

    private static void read() {
        Quotes.terms("READ: the value of a PAGE that WAITS; else the BYTE of its BLOCK, if it is PLACED and WRITTEN; else"
                + " 0.", 6, 7);
        TwinTreeVolume x = new TwinTreeVolume();
        Checks.due("a hole", x.read(0, 0), 0);
        x.says(0, 0, 55);
        Checks.due("waits, not placed", x.read(0, 0), 55);
        x.flush(0);
        Checks.due("written", x.read(0, 0), 55);
        x.says(0, 0, 0);
        Checks.due("waits with 0 over a byte", x.read(0, 0), 0);
        x.says(0, 0, 66);
        Checks.due("waits over a byte", x.read(0, 0), 66);
        x.crash(1, 0);
        Checks.due("the byte again", x.read(0, 0), 55);
        x.punch(0, 0, 1);
        Checks.due("a hole again", x.read(0, 0), 0);
        x.ahead(1, 5, 1);
        Checks.due("the byte of a page not written", x.whose(0, 1), 55);
        Checks.due("is not read", x.read(1, 5), 0);
        x.says(1, 5, 77);
        Checks.due("placed, not written, waits", x.read(1, 5), 77);
    }

    private static void byPlaceAndSize() {
        Quotes.terms("BY PLACE: the i-th (0 ..) FREE RUN by START; BY SIZE: by SIZE, of several by START: 100 times START"
                + " and SIZE.", 14);
        TwinTreeVolume x = Given.free(0, 3, 10, 1, 20, 5, 30, 1, 50, 3, 63, 1);
        int[] byPlace = {3, 1001, 2005, 3001, 5003, 6301};
        int[] bySize = {1001, 3001, 6301, 3, 5003, 2005};
        for (int i = 0; i < 6; i++) {
            Checks.due("by place " + i, x.byPlace(i, 0), byPlace[i]);
            Checks.due("by size " + i, x.byPlace(i, 1), bySize[i]);
        }
        Checks.due("all blocks by place", new TwinTreeVolume().byPlace(0, 0), 64);
        Checks.due("all blocks by size", new TwinTreeVolume().byPlace(0, 1), 64);
    }

    private static void fit() {
        Quotes.terms("FIT: the START of the least FREE RUN of SIZE n or more (1 .. 64), of several the first; -9.", 15);
        TwinTreeVolume x = Given.free(2, 4, 10, 2, 20, 2, 30, 4);
        int[] due = {10, 10, 2, 2, -9};
        for (int n = 1; n <= 5; n++) {
            Checks.due("fit " + n, x.fit(n), due[n - 1]);
        }
        Checks.due("64 of none", x.fit(64), -9);
        Checks.due("64 of all", new TwinTreeVolume().fit(64), 0);
        Checks.due("1 of all", new TwinTreeVolume().fit(1), 0);
        Checks.due("64 of 63", Checks.made("a00001;").fit(64), -9);
        Checks.due("63 of 63", Checks.made("a00001;").fit(63), 1);
        Checks.due("1 of none", Given.free().fit(1), -9);
    }

    private static void nearest() {
        Quotes.terms("NEAREST to a BLOCK: the START of the FREE RUN of SIZE n or more whose START is nearest to it, of"
                + " several the first; -9.", 16);
        TwinTreeVolume x = Given.free(2, 5, 10, 2, 20, 3, 60, 4);
        Checks.due("from block 0", x.nearest(0, 1), 2);
        Checks.due("its own start", x.nearest(10, 2), 10);
        Checks.due("inside a run another start may be nearer", x.nearest(62, 4), 60);
        Checks.due("as far ahead as behind", x.nearest(6, 1), 2);
        Checks.due("one nearer behind", x.nearest(7, 1), 10);
        Checks.due("as far ahead as behind", x.nearest(15, 2), 10);
        Checks.due("of size 3", x.nearest(11, 3), 2);
        Checks.due("of size 3, as far", x.nearest(11, 3), 2);
        Checks.due("of size 3, nearer", x.nearest(12, 3), 20);
        Checks.due("of size 5, from far", x.nearest(63, 5), 2);
        Checks.due("of size 6", x.nearest(63, 6), -9);
        Checks.due("64 of all", new TwinTreeVolume().nearest(63, 64), 0);
        Checks.due("none free", Given.free().nearest(0, 1), -9);
    }

    private static void whose() {
        Quotes.terms("WHOSE: 100 times the FILE and the PAGE that is PLACED at a BLOCK; -9.", 17);
        TwinTreeVolume x = new TwinTreeVolume();
        x.ahead(0, 0, 1);
        x.ahead(3, 23, 1);
        x.says(1, 1, 5);
        Checks.due("the first page of the first file", x.whose(0, 0), 0);
        Checks.due("the last page of the last file", x.whose(1, 0), 323);
        Checks.due("nobody's, though one waits", x.whose(2, 0), -9);
        x.flush(1);
        Checks.due("written", x.whose(2, 0), 101);
        x.settle(0);
        Checks.due("behind settling", x.whose(0, 0), -9);
        Checks.due("settled", x.whose(3, 0), 0);
        Checks.due("block 63", Given.free().whose(63, 0), 115);
    }

    private static void depth() {
        Quotes.terms("DEPTH of a FILE's map: 0 with 4 EXTENTS or fewer, 1 with 16 or fewer, else 2.", 5);
        TwinTreeVolume x = new TwinTreeVolume();
        Checks.due("of none", x.file(0, 5), 0);
        int[] extents = {1, 4, 5, 16, 17, 24};
        int[] depths = {0, 0, 1, 1, 2, 2};
        for (int i = 0; i < extents.length; i++) {
            TwinTreeVolume y = Given.lone(extents[i]);
            y.ahead(0, 0, extents[i]);
            Checks.due("extents", y.file(0, 4), extents[i]);
            Checks.due("depth of " + extents[i], y.file(0, 5), depths[i]);
        }
    }

    private static void stale() {
        Quotes.terms("STALE: FREE BLOCKS with a BYTE not 0; BLOCKS of PAGES not WRITTEN with a BYTE not 0.", 18);
        TwinTreeVolume x = new TwinTreeVolume();
        Given.says(x, 1, 0, 1, 0, 99);
        x.flush(1);
        Checks.due("written ones are none", x.stale(0) + x.stale(1), 0);
        x.punch(1, 0, 3);
        Checks.due("free, bytes 1, 0 and 99", x.stale(0), 2);
        Checks.due("none placed", x.stale(1), 0);
        // Page 0 of file 0 at block 0.
        x.ahead(0, 0, 3);
        Checks.due("none free", x.stale(0), 0);
        Checks.due("not written, bytes 1, 0 and 99", x.stale(1), 2);
        Given.says(x, 0, 0, 5, 5, 5);
        Checks.due("waiting is not written", x.stale(1), 2);
        x.crash(0, 2);
        Checks.due("one written", x.stale(1), 1);
        x.settle(0);
        Checks.due("behind settling the old blocks, too", x.stale(0), 2);
        Checks.due("not written, taken along", x.stale(1), 1);
    }

    private static void scatter() {
        Quotes.terms("SCATTER: EXTENTS of a FILE, were it FLUSHED now.", 19);
        Checks.due("nothing waits", new TwinTreeVolume().scatter(0), 0);
        TwinTreeVolume x = Given.at(20, 5, 1, 21, 1);
        Checks.due("as it is", x.scatter(0), 1);
        x.says(0, 1, 1);
        Checks.due("plain", x.scatter(0), 2);
        x.says(0, 0, 1);
        x.kind(0, 1);
        Checks.due("near, both written", x.scatter(0), 1);
        Checks.due("nothing is flushed", x.file(0, 4), 1);
        Checks.due("no block is taken", x.count(0), 2);
        TwinTreeVolume split = Given.free(1, 2, 5, 2, 9, 1);
        Given.says(split, 0, 0, 1, 2, 3, 4, 5);
        Checks.due("three pieces", split.scatter(0), 3);
    }

    private static void kindBest() {
        Quotes.terms("KIND BEST: the KIND with which this is least, of several the least; that.", 20);
        TwinTreeVolume x = Given.at(20, 5, 1, 21, 1);
        Checks.due("nothing waits: all alike", x.kindBest(0, 0), 0);
        Checks.due("as it is", x.kindBest(0, 1), 1);
        Given.says(x, 0, 0, 1, 2);
        for (int kind = 0; kind < 6; kind++) {
            x.kind(0, kind);
            Checks.due("near, striped and close are alike", x.kindBest(0, 0), 1);
            Checks.due("extents", x.kindBest(0, 1), 1);
            Checks.due("the kind stays", x.file(0, 0), kind);
        }
        Checks.due("of no page", new TwinTreeVolume().kindBest(3, 0), 0);
        Checks.due("of no page", new TwinTreeVolume().kindBest(3, 1), 0);
        TwinTreeVolume most = Given.lone(24);
        for (int p = 0; p < 24; p++) {
            most.says(0, p, 9);
        }
        Checks.due("most extents, by whichever kind", most.kindBest(0, 0), 0);
        Checks.due("most extents", most.kindBest(0, 1), 24);
        best("near, striped and close put page 3 behind page 2", written(2, 20), new int[] {5, 1, 21, 1}, 3, 1, 1, 1);
        best("striped and high put pages 0 to 3 ahead of page 4", written(4, 12), new int[] {6, 6}, 0, 4, 2, 1);
        best("high puts pages 0 to 2 ahead of page 3", written(3, 12), new int[] {7, 5}, 0, 3, 4, 1);
        // PLAIN and HIGH take page 0 from the run of two that pages 2 and 3 would fill just ahead of page 4.
        TwinTreeVolume great = written(4, 12);
        Given.open(great, 10, 2, 30, 3);
        great.says(0, 0, 9);
        Given.says(great, 0, 2, 9, 9);
        Checks.due("great: kind", great.kindBest(0, 0), 3);
        Checks.due("great: extents", great.kindBest(0, 1), 2);
        TwinTreeVolume close = written(3, 32);
        Given.open(close, 20, 1);
        close.says(0, 0, 9);
        close.flush(0);
        Given.places("close", close, 0, 0, 20, -9, -9, 32);
        best("close puts pages 1 and 2 ahead of page 3", close, new int[] {2, 2, 30, 2, 50, 4}, 1, 2, 5, 2);
    }

    /** One page of file 0 is placed at a block and written; nothing else is free. */
    private static TwinTreeVolume written(int page, int block) {
        TwinTreeVolume x = Given.free(block, 1);
        x.says(0, page, 9);
        x.flush(0);
        return x;
    }

    /** These runs become free, n pages of file 0 from a page on wait: then this kind is best. */
    private static void best(String what, TwinTreeVolume x, int[] runs, int page, int n, int kind, int extents) {
        Given.open(x, runs);
        for (int p = page; p < page + n; p++) {
            x.says(0, p, 9);
        }
        Checks.due(what + ": kind", x.kindBest(0, 0), kind);
        Checks.due(what + ": extents", x.kindBest(0, 1), extents);
    }

    private static void order() {
        Quotes.terms("ORDER: in which all four FILES are FLUSHED so that EXTENTS of all together are fewest, of several"
                + " the first: a number whose digits, from the first on, are FILES and 1; these EXTENTS.", 21);
        Checks.due("all alike: the first", new TwinTreeVolume().order(0), 1234);
        Checks.due("none", new TwinTreeVolume().order(1), 0);
        TwinTreeVolume x = Given.rivals();
        int together = x.count(5);
        Checks.due("file 1 ahead of file 0, of several the first", x.order(0), 2134);
        Checks.due("one extent more for each", x.order(1), together + 2);
        Checks.due("nothing is flushed", x.count(1), 7);
        x.kind(0, 0);
        Checks.due("plain takes the run of three", x.order(0), 1234);
        // Each file, GREAT, fills just one run, if no file with fewer pages is flushed ahead of it.
        TwinTreeVolume last = new TwinTreeVolume();
        int[] pages = {4, 20, 20, 20};
        for (int f = 3; f >= 0; f--) {
            last.ahead(f, 4, pages[f]);
            last.kind(f, 3);
        }
        Given.open(last, 0, 4, 10, 3, 25, 2, 50, 1);
        int now = last.count(5);
        for (int f = 0; f < 4; f++) {
            for (int p = 0; p <= f; p++) {
                last.says(f, p, 9);
            }
        }
        Checks.due("the last order of all", last.order(0), 4321);
        Checks.due("one extent more for each", last.order(1), now + 4);
    }

    private static void steps() {
        Quotes.terms("STEPS: how many a FLUSH of a FILE has now.", 22);
        TwinTreeVolume x = Given.free(1, 2, 10, 3);
        Checks.due("none", x.steps(0), 0);
        Given.says(x, 0, 0, 1, 2, 3, 4);
        Checks.due("two pieces, four pages", x.steps(0), 10);
        Checks.due("nothing is flushed", x.file(0, 3), 4);
        x.says(3, 0, 1);
        Checks.due("a placed page", x.steps(3), 2);
        Checks.due("of another file none", x.steps(2), 0);
    }

    /** Steps of file 0: page 4 is put; byte and written of page 0, which has a block; byte and written of page 4. */
    private static TwinTreeVolume atRisk() {
        TwinTreeVolume x = new TwinTreeVolume();
        Given.says(x, 0, 0, 1, 0);
        x.flush(0);
        x.says(3, 5, 44);
        x.flush(3);
        x.says(0, 0, 11);
        x.says(0, 4, 5);
        x.says(1, 0, 7);
        x.says(3, 23, 0);
        return x;
    }

    private static void loses() {
        Quotes.terms("LOSES: how many PAGES of a FILE are READ otherwise than now behind a CRASH of its FLUSH with k STEPS"
                + " (0 .. 99).", 23);
        TwinTreeVolume x = atRisk();
        int[] own = {2, 2, 1, 1, 1, 0, 0};
        for (int k = 0; k < own.length; k++) {
            Checks.due("behind " + k, x.loses(0, k, 0), own[k]);
        }
        Checks.due("behind 99", x.loses(0, 99, 0), 0);
        Checks.due("where nothing waits", x.loses(2, 0, 0), 0);
        Checks.due("where 0 waits on a hole", x.loses(3, 0, 0), 0);
        Checks.due("nothing crashed", x.count(1), 3);
        // The value that waits is the byte already.
        TwinTreeVolume same = new TwinTreeVolume();
        same.says(0, 0, 5);
        same.flush(0);
        same.says(0, 0, 5);
        Checks.due("the same value", same.loses(0, 0, 0), 0);
        // A page that is placed, but not written, is read as 0 until it is.
        TwinTreeVolume placed = new TwinTreeVolume();
        placed.ahead(0, 0, 1);
        placed.says(0, 0, 5);
        Checks.due("its byte alone", placed.loses(0, 1, 0), 1);
        Checks.due("byte and written", placed.loses(0, 2, 0), 0);
    }

    private static void safe() {
        Quotes.terms("SAFE: the least k with which it loses none.", 24);
        TwinTreeVolume x = atRisk();
        Checks.due("all steps", x.safe(0), 5);
        Checks.due("nothing waits", x.safe(2), 0);
        Checks.due("0 waits on a hole", x.safe(3), 0);
        TwinTreeVolume byByte = new TwinTreeVolume();
        Given.says(byByte, 0, 0, 1, 2);
        byByte.flush(0);
        Given.says(byByte, 0, 0, 3, 4);
        Checks.due("all steps but the last", byByte.safe(0), 3);
        TwinTreeVolume tail = new TwinTreeVolume();
        Given.says(tail, 0, 0, 1, 0);
        Checks.due("the last page is read as 0 anyway", tail.safe(0), 3);
        Checks.due("nothing crashed", tail.count(1), 2);
    }

    private static void others() {
        Quotes.terms("OTHERS: how many PAGES of other FILES are READ otherwise then.", 23);
        TwinTreeVolume x = atRisk();
        for (int k : new int[] {0, 1, 5, 99}) {
            Checks.due("one waits, one waits with 0", x.loses(0, k, 1), 1);
            Checks.due("of file 0", x.loses(1, k, 1), 2);
            Checks.due("of files 0 and 1", x.loses(2, k, 1), 3);
        }
        Checks.due("none waits", new TwinTreeVolume().loses(0, 0, 1), 0);
    }

    private static void gather() {
        Quotes.terms("GATHER: the fewest BLOCKS, not FREE now, among n on end (1 .. 64), as far as as many BLOCKS outside"
                + " are FREE: the first of the n, of several the first; how many; -9.", 25);
        TwinTreeVolume x = Given.free(2, 1, 10, 2, 20, 2, 40, 1);
        int[] first = {2, 10, 9};
        int[] many = {0, 0, 1};
        for (int n = 1; n <= 3; n++) {
            Checks.due("first of " + n, x.gather(n, 0), first[n - 1]);
            Checks.due("how many of " + n, x.gather(n, 1), many[n - 1]);
        }
        // Six blocks are free: six on end can be had, seven can not.
        Checks.due("six", x.gather(6, 0), 6);
        Checks.due("how many of six", x.gather(6, 1), 4);
        Checks.due("seven", x.gather(7, 0), -9);
        Checks.due("how many of seven", x.gather(7, 1), -9);
        TwinTreeVolume origin = Given.at(0, 63, 1);
        Checks.due("block 0 is a page's", origin.whose(0, 0), 0);
        Checks.due("the last block", origin.gather(1, 0), 63);
        Checks.due("none to be moved", origin.gather(1, 1), 0);
        Checks.due("one free block for two", origin.gather(2, 0), -9);
        Given.open(origin, 30, 1);
        Checks.due("of several the first", origin.gather(2, 0), 29);
        Checks.due("one to be moved", origin.gather(2, 1), 1);
        Checks.due("all", new TwinTreeVolume().gather(64, 0), 0);
        Checks.due("none to be moved", new TwinTreeVolume().gather(64, 1), 0);
        Checks.due("64 of 63", Checks.made("a00001;").gather(64, 0), -9);
        Checks.due("63 of 63", Checks.made("a00001;").gather(63, 0), 1);
        Checks.due("one of none", Given.free().gather(1, 1), -9);
        TwinTreeVolume promised = Given.free(10, 1, 20, 1);
        Given.says(promised, 0, 0, 1, 2);
        Checks.due("a promised block is free", promised.gather(2, 1), 1);
    }

    private static void first() {
        Quotes.terms("FIRST of two FILES: to FLUSH the one, then the other one (0), or the other way round (1): that by"
                + " which both have fewer EXTENTS together; -9 alike.", 26);
        TwinTreeVolume x = Given.rivals();
        Checks.due("the other way round", x.first(0, 1), 1);
        Checks.due("the one ahead", x.first(1, 0), 0);
        Checks.due("alike", x.first(0, 2), -9);
        Checks.due("alike where nothing waits", new TwinTreeVolume().first(3, 0), -9);
        Checks.due("nothing is flushed", x.count(1), 7);
    }

    private static void two() {
        Quotes.terms("TWO FILES: each is FLUSHED now (1), the one ahead of the other one, or left (0), and then both are"
                + " FLUSHED, the other one ahead of the one: each wants EXTENTS of its own fewest: the first pair (10 the"
                + " one's and the other's; by 0, 1, 10, 11) by which neither has fewer by another one of its own alone;"
                + " -9.", 27);
        TwinTreeVolume x = Given.rivals();
        Checks.due("the one finds its run anyway", x.two(0, 1), 0);
        Checks.due("the one must be flushed now", x.two(1, 0), 10);
        Checks.due("nothing is flushed", x.count(1), 7);
        Checks.due("nothing waits: the first pair", new TwinTreeVolume().two(2, 3), 0);
    }

    private static void most() {
        Quotes.terms("MOST: how many of the HOLES of a FILE can be SAID now.", 28);
        Checks.due("all", new TwinTreeVolume().most(3), 24);
        TwinTreeVolume x = Given.free(5, 3);
        Checks.due("as many as there is room", x.most(0), 3);
        Checks.due("as many as there are holes", x.most(3), 3);
        Given.open(x, 50, 1);
        Checks.due("fewer holes than room", x.most(3), 3);
        x.says(0, 0, 1);
        Checks.due("less what is promised", x.most(0), 3);
        Given.says(x, 0, 1, 1, 1, 1);
        Checks.due("no room", x.most(0), 0);
        Checks.due("no holes", Given.free().most(3), 0);
        TwinTreeVolume waits = new TwinTreeVolume();
        waits.says(3, 5, 0);
        waits.ahead(3, 9, 2);
        Checks.due("one that waits and two that are placed are no holes", waits.most(3), 21);
    }

    private static void larger() {
        Quotes.terms("LARGER: by how many BLOCKS the greatest FREE RUN would be greater, if a FILE were SETTLED now (below"
                + " 0 if less); if it can not be, 0.", 29);
        TwinTreeVolume less = Given.at(30, 5, 3);
        Checks.due("less", less.larger(0), -1);
        TwinTreeVolume same = Given.at(30, 5, 3, 40, 1);
        Checks.due("the same", same.larger(0), 0);
        TwinTreeVolume more = Given.at(30, 5, 1, 28, 2, 31, 2);
        Checks.due("two runs and a block", more.larger(0), 3);
        Checks.due("it stays", more.page(0, 0, 0), 30);
        Checks.due("no run for it", Given.free().larger(3), 0);
        Checks.due("no placed page", Given.free(5, 9).larger(0), 0);
        TwinTreeVolume waits = Given.free(5, 9);
        waits.says(0, 0, 1);
        Checks.due("waiting is not placed", waits.larger(0), 0);
        Checks.due("behind itself", Checks.made("a00002;").larger(0), -2);
    }

    private static void lost() {
        Quotes.terms("LOST: a CRASH comes behind 0, 1, .. all STEPS of a FLUSH of a FILE, each alike likely: how many"
                + " PAGES it LOSES in the mean: a fraction.", 30);
        TwinTreeVolume x = atRisk();
        // 2, 2, 1, 1, 1, 0 by six.
        Checks.due("above", x.lost(0, 0), 7);
        Checks.due("below", x.lost(0, 1), 6);
        // 1, 1, 1, 0 by four.
        Checks.due("above", x.lost(1, 0), 3);
        Checks.due("below", x.lost(1, 1), 4);
        Checks.due("nothing crashed", x.count(1), 3);
        Checks.due("no steps: above", x.lost(2, 0), 0);
        Checks.due("no steps: below", x.lost(2, 1), 1);
        Checks.due("steps that lose nothing: above", x.lost(3, 0), 0);
        Checks.due("steps that lose nothing: below", x.lost(3, 1), 1);
    }

    private static void sure() {
        Quotes.terms("SURE: likewise, how likely one PAGE is READ as now.", 31);
        TwinTreeVolume x = atRisk();
        // Page 0 behind 2, 3, 4, 5 of 0 .. 5; page 4 behind 5 alone; page 1 always.
        int[][] due = {{0, 2, 3}, {4, 1, 6}, {1, 1, 1}, {23, 1, 1}};
        for (int[] d : due) {
            Checks.due("above of page " + d[0], x.sure(0, d[0], 0), d[1]);
            Checks.due("below of page " + d[0], x.sure(0, d[0], 1), d[2]);
        }
        Checks.due("no steps: above", x.sure(2, 0, 0), 1);
        Checks.due("no steps: below", x.sure(2, 0, 1), 1);
        Checks.due("0 waits on a hole: above", x.sure(3, 23, 0), 1);
        Checks.due("0 waits on a hole: below", x.sure(3, 23, 1), 1);
        Checks.due("nothing crashed", x.count(1), 3);
    }

    private static void mean() {
        Quotes.terms("MEAN: PLACED PAGES of all FILES by EXTENTS of all: a fraction (0 by 1 of none).", 32);
        TwinTreeVolume x = new TwinTreeVolume();
        Checks.due("of none: above", x.mean(0), 0);
        Checks.due("of none: below", x.mean(1), 1);
        x.says(0, 0, 1);
        Checks.due("waiting is not placed: above", x.mean(0), 0);
        Checks.due("waiting is not placed: below", x.mean(1), 1);
        Checks.due("64 by 3: above", Given.free().mean(0), 64);
        Checks.due("64 by 3: below", Given.free().mean(1), 3);
        TwinTreeVolume all = new TwinTreeVolume();
        all.ahead(2, 0, 24);
        Checks.due("24 by 1: above", all.mean(0), 24);
        Checks.due("24 by 1: below", all.mean(1), 1);
    }

    private static void fractions() {
        Quotes.terms("Fractions in least terms (0 by 1, if nothing).", 30, 31, 32);
        TwinTreeVolume x = Checks.made("a00004;a10202;a21001;a30301;");
        Checks.due("8 by 4: above", x.mean(0), 2);
        Checks.due("8 by 4: below", x.mean(1), 1);
        Checks.tell(x, "a20801;a30501;");
        Checks.due("10 by 6: above", x.mean(0), 5);
        Checks.due("10 by 6: below", x.mean(1), 3);
        TwinTreeVolume six = Checks.made("w00001;w00102;");
        // 2, 2, 2, 1, 1, 0 by six; page 0 behind 3, 4, 5 of 0 .. 5.
        Checks.due("8 by 6: above", six.lost(0, 0), 4);
        Checks.due("8 by 6: below", six.lost(0, 1), 3);
        Checks.due("3 by 6: above", six.sure(0, 0, 0), 1);
        Checks.due("3 by 6: below", six.sure(0, 0, 1), 2);
        Quotes.terms("Fractions are told in least terms; 0 as 0 by 1.", 30, 31, 32);
        Checks.due("0 by 6: above", six.lost(1, 0), 0);
        Checks.due("0 by 6: below", six.lost(1, 1), 1);
        Checks.due("0 by 0: below", new TwinTreeVolume().mean(1), 1);
        TwinTreeVolume zero = Checks.made("w00000;");
        Checks.due("0 by 4: above", zero.lost(0, 0), 0);
        Checks.due("0 by 4: below", zero.lost(0, 1), 1);
    }

    private static int whichOf(TwinTreeVolume x, int... places) {
        x.clear();
        Checks.row(x, places);
        return x.which(0);
    }

    private static void which() {
        Quotes.terms("WHICH: a ROW tells at which BLOCKS the PAGES of a FILE that WAIT and are not PLACED, by PAGES, are"
                + " PLACED by a FLUSH now (as many as it tells; the rest anywhere): KINDS (bits) by which it is so.", 33);
        Checks.due("nothing told, nothing waits", whichOf(new TwinTreeVolume()), 63);
        TwinTreeVolume x = Given.at(20, 5, 2, 21, 3, 30, 3, 40, 5);
        Given.says(x, 0, 1, 1, 2);
        // PLAIN 5, NEAR 21, STRIPED 21, GREAT 40, HIGH 5, CLOSE 21.
        Checks.due("nothing told", whichOf(x), 63);
        Checks.due("plain and high", whichOf(x, 5), 17);
        Checks.due("plain and high, both pages", whichOf(x, 5, 6), 17);
        Checks.due("near, striped and close", whichOf(x, 21, 22), 38);
        Checks.due("great", whichOf(x, 40), 8);
        Checks.due("the second page is elsewhere", whichOf(x, 40, 42), 0);
        Checks.due("no block", whichOf(x, 64), 0);
        Checks.due("99", whichOf(x, 99), 0);
        x.says(0, 0, 9);
        Checks.due("one that is placed is not told", whichOf(x, 40, 41), 8);
        Checks.due("the row stays", x.count(6), 2);
        x.says(0, 9, 3);
        Checks.due("behind a hole: of three one told", whichOf(x, 40), 8);
        Checks.due("three told", whichOf(x, 40, 41, 21), 8);
        TwinTreeVolume high = Given.free(5, 4, 20, 4);
        Given.says(high, 0, 0, 1, 2, 3);
        Checks.due("high alone", whichOf(high, 6, 7, 8), 16);
        Checks.due("block 0", whichOf(Given.free(5, 1), 0), -3);
        TwinTreeVolume zero = Given.free(0, 1);
        zero.says(0, 0, 1);
        Checks.due("block 0", whichOf(zero, 0), 63);
        Checks.due("block 1", whichOf(zero, 1), 0);
        TwinTreeVolume close = Given.at(20, 12, 4, 30, 3);
        Given.says(close, 0, 1, 1, 2, 3);
        Checks.due("close and great", whichOf(close, 12), 40);
        TwinTreeVolume striped = Given.free(5, 4, 21, 7);
        Given.says(striped, 0, 0, 1, 2, 3, 4);
        Checks.due("striped", whichOf(striped, 24, 25, 26, 27), 4);
    }

    private static void judged(TwinTreeVolume x, int file, int due, int... places) {
        x.clear();
        Checks.row(x, places);
        Checks.due("judged", x.judge(file), due);
    }

    private static void judged() {
        Quotes.terms("JUDGED: a ROW tells at which BLOCKS PAGES 0, 1, .. of a FILE are PLACED (99: not): the first that is"
                + " not so (a PAGE past the last is not PLACED); -9.", 35);
        TwinTreeVolume x = Given.free(0, 1, 63, 1);
        x.ahead(0, 0, 2);
        x.says(0, 1, 5);
        Given.open(x, 30, 1);
        x.says(0, 2, 5);
        Given.places("as it is: page 2 waits, but has no block", x, 0, 0, 0, 63, -9, -9);
        judged(x, 0, -9);
        judged(x, 0, -9, 0);
        judged(x, 0, -9, 0, 63, 99, 99);
        judged(x, 0, 0, 99);
        judged(x, 0, 0, 1, 99);
        judged(x, 0, 1, 0, 99);
        judged(x, 0, 1, 0, 64, 0);
        judged(x, 0, 2, 0, 63, 0);
        judged(x, 0, 2, 0, 63, 64);
        judged(x, 0, 3, 0, 63, 99, 98);
        int[] long32 = new int[32];
        java.util.Arrays.fill(long32, 99);
        judged(new TwinTreeVolume(), 3, -9, long32);
        long32[31] = 0;
        judged(new TwinTreeVolume(), 3, 31, long32);
        long32[24] = 5;
        judged(new TwinTreeVolume(), 3, 24, long32);
        // Page 24 of file 0 is no page of file 1, whatever that has at its page 0.
        TwinTreeVolume two = new TwinTreeVolume();
        two.ahead(0, 0, 24);
        two.ahead(1, 0, 1);
        int[] places = new int[25];
        for (int p = 0; p < 25; p++) {
            places[p] = p;
        }
        judged(two, 0, 24, places);
        places[24] = 99;
        judged(two, 0, -9, places);
    }

    private static void forged(TwinTreeVolume x, int due, int... pairs) {
        x.clear();
        Checks.row(x, pairs);
        Checks.due("forged", x.forged(), due);
    }

    private static void forged() {
        Quotes.terms("FORGED: a ROW of pairs, START and SIZE, should tell all FREE RUNS by place: the first pair that is"
                + " not so (one that is not there, too, and the first that lacks); -9.", 36);
        TwinTreeVolume x = Given.free(0, 2, 6, 1, 60, 4);
        forged(x, -9, 0, 2, 6, 1, 60, 4);
        forged(x, 0);
        forged(x, 1, 0, 2);
        forged(x, 2, 0, 2, 6, 1);
        forged(x, 3, 0, 2, 6, 1, 60, 4, 64, 0);
        forged(x, 3, 0, 2, 6, 1, 60, 4, 0, 0);
        forged(x, 0, 1, 1, 6, 1, 60, 4);
        forged(x, 0, 0, 1, 6, 1, 60, 4);
        forged(x, 1, 0, 2, 6, 2, 60, 4);
        forged(x, 1, 0, 2, 7, 1, 60, 4);
        forged(x, 1, 0, 2, 60, 4, 6, 1);
        forged(x, 2, 0, 2, 6, 1, 60, 3, 63, 1);
        forged(new TwinTreeVolume(), -9, 0, 64);
        forged(new TwinTreeVolume(), 0, 0, 63);
        forged(new TwinTreeVolume(), 0, 0, 63, 63, 1);
        forged(Given.free(), -9);
        forged(Given.free(), 0, 0, 0);
    }

    private static void lots() {
        Quotes.terms("LOTS with a seed z: n volumes (1 .. 20), each from now: 8 times FILE by a DRAW below 4, PAGE by one"
                + " below 24, value by one below 100: it is SAID, if that can be; then all are FLUSHED by numbers: EXTENTS"
                + " of all together, of all volumes; FREE RUNS, of all.", 38);
        int[] seeds = {0, 1, -1, 7, 20261118, Integer.MAX_VALUE, Integer.MIN_VALUE};
        for (int seed : seeds) {
            played(new TwinTreeVolume(), 1, seed);
            played(new TwinTreeVolume(), 2, seed);
            played(Checks.made("k0g;k1h;k2s;k3c;w00105;w20007;"), 20, seed);
            // Room for some of the eight alone.
            played(Given.free(2, 1, 9, 1, 40, 1), 5, seed);
            // Files flushed by numbers: the first, GREAT, takes the run that another one would need.
            TwinTreeVolume x = Given.rivals();
            Given.open(x, 50, 3);
            played(x, 6, seed);
        }
        // No room: pages that are placed are said all the same.
        played(Given.free(), 4, 99);
        TwinTreeVolume all = new TwinTreeVolume();
        all.image();
        all.lots(20, 1, 0);
        Checks.due("nothing is said", all.count(1), 0);
        Checks.due("nothing is placed", all.count(0), 64);
    }

    private static void draws() {
        Quotes.terms("A DRAW below m: z becomes z times 1664525 and 1013904223 (an int); (z without its sign's bit by 256,"
                + " cut) modulo m.", 38);
        // In a new volume each file has as many extents as its drawn pages make series.
        for (int seed = -3; seed <= 3; seed++) {
            TwinTreeVolume x = new TwinTreeVolume();
            Draws draws = new Draws(seed);
            boolean[] isHit = new boolean[4 * 24];
            for (int i = 0; i < 8; i++) {
                int file = draws.below(4);
                int page = draws.below(24);
                draws.below(100);
                isHit[24 * file + page] = true;
            }
            int extents = 0;
            for (int f = 0; f < 4; f++) {
                for (int p = 0; p < 24; p++) {
                    extents += isHit[24 * f + p] && (p == 0 || !isHit[24 * f + p - 1]) ? 1 : 0;
                }
            }
            Checks.due("extents by hand, seed " + seed, x.lots(1, seed, 0), extents);
            Checks.due("free runs, seed " + seed, x.lots(1, seed, 1), 1);
        }
        // By hand: seed 0 becomes 1013904223, by 256 that is 3960563, modulo 4 it is 3; then 1196435762, 4673577, 9.
        Draws hand = new Draws(0);
        Checks.due("first draw", hand.below(4), 3);
        Checks.due("second draw", hand.below(24), 9);
    }

    private static final class Draws {
        private int z;

        private Draws(int seed) {
            z = seed;
        }

        private int below(int m) {
            z = (int) (z * 1664525L + 1013904223L);
            long withoutSign = z < 0 ? z + 2147483648L : z;
            return (int) (withoutSign / 256 % m);
        }
    }

    /** Lots, played by calls on the object itself, from its image each time. */
    private static void played(TwinTreeVolume x, int n, int seed) {
        Draws draws = new Draws(seed);
        int answerOfExtents = x.lots(n, seed, 0);
        int answerOfRuns = x.lots(n, seed, 1);
        int extents = 0;
        int runs = 0;
        x.image();
        for (int i = 0; i < n; i++) {
            x.on();
            for (int j = 0; j < 8; j++) {
                int file = draws.below(4);
                int page = draws.below(24);
                x.says(file, page, draws.below(100));
            }
            for (int f = 0; f < 4; f++) {
                x.flush(f);
            }
            extents += x.count(5);
            runs += x.count(3);
        }
        Checks.due("extents of " + n + ", seed " + seed, answerOfExtents, extents);
        Checks.due("free runs of " + n + ", seed " + seed, answerOfRuns, runs);
    }

    private static void image() {
        Quotes.terms("THE IMAGE: all that there is, but it, the ROW, letters, REFUSALS; ON from it all is as then.", 39, 40);
        TwinTreeVolume x = new TwinTreeVolume();
        x.kind(1, 3);
        Given.says(x, 0, 0, 1, 2);
        x.flush(0);
        x.says(0, 0, 11);
        x.says(1, 0, 0);
        x.ahead(2, 2, 1);
        x.row(4);
        x.letter('f');
        x.image();
        x.row(5);
        x.row(6);
        x.letter('1');
        x.read(4, 4);
        x.kind(1, 4);
        x.says(0, 1, 0);
        x.says(3, 3, 3);
        x.flush(0);
        x.settle(0);
        x.punch(2, 2, 1);
        x.ahead(3, 0, 9);
        x.on();
        Checks.due("kind", x.file(1, 0), 3);
        Given.page("written, waits", x, 0, 0, 0, 1, 11);
        Given.page("written", x, 0, 1, 1, 1, -9);
        Given.page("waits with 0", x, 1, 0, -9, 0, 0);
        Given.page("not written", x, 2, 2, 2, 0, -9);
        Given.page("a hole", x, 3, 3, -9, 0, -9);
        for (int b = 0; b < 14; b++) {
            Checks.due("byte of " + b, x.whose(b, 1), b < 2 ? b + 1 : 0);
            Checks.due("whose is " + b, x.whose(b, 0), b < 2 ? b : b == 2 ? 202 : -9);
        }
        Checks.due("the row is not in it", x.count(6), 3);
        Checks.due("letters are not in it", x.count(7), 2);
        Checks.due("refusals are not in it", x.count(11), 1);
        x.letter(';');
        Checks.due("the letters", x.volume(), 1);
        Given.page("are all there", x, 1, 0, 3, 1, -9);
        x.on();
        Given.page("the image is there still", x, 1, 0, -9, 0, 0);
        x.image();
        x.punch(0, 0, 24);
        x.on();
        Given.page("it is taken anew", x, 0, 0, 0, 1, 11);
    }
}
