/** Boundary cases of the "Terms", part I.: blocks, pages, room, and what is said, put, flushed, crashed, settled. */
final class EdgesOfTerms {
    private static final int PLAIN = 0;
    private static final int NEAR = 1;
    private static final int STRIPED = 2;
    private static final int GREAT = 3;
    private static final int HIGH = 4;
    private static final int CLOSE = 5;

    private EdgesOfTerms() {
    }

    static void run() {
        blocks();
        freeRuns();
        files();
        pages();
        holes();
        reserved();
        room();
        extents();
        said();
        ahead();
        punched();
        flushed();
        steps();
        crash();
        settled();
        put();
        goal();
        plain();
        near();
        striped();
        great();
        high();
        close();
    }

    private static void blocks() {
        Quotes.terms("BLOCKS 0 .. 63, each FREE (at first) or a PAGE's, each with a BYTE (0 .. 99; 0 at first)"
                + " that it keeps when it becomes FREE or another PAGE's.", 1, 8, 9, 10, 17);
        TwinTreeVolume x = new TwinTreeVolume();
        Checks.due("all are free", x.count(0), 64);
        Checks.due("block 0 at first", x.whose(0, 0), -9);
        Checks.due("block 63 at first", x.whose(63, 0), -9);
        Checks.due("no block -1", x.whose(-1, 0), -1);
        Checks.due("no block 64", x.whose(64, 0), -1);
        Checks.due("byte of 0 at first", x.whose(0, 1), 0);
        Checks.due("byte of 63 at first", x.whose(63, 1), 0);
        x.says(2, 5, 99);
        x.flush(2);
        Checks.due("a page's", x.whose(0, 0), 205);
        Checks.due("greatest byte", x.whose(0, 1), 99);
        x.punch(2, 5, 1);
        Checks.due("free", x.whose(0, 0), -9);
        Checks.due("byte is kept by a free block", x.whose(0, 1), 99);
        x.ahead(1, 23, 1);
        Checks.due("another page's", x.whose(0, 0), 123);
        Checks.due("byte is kept by another page's block", x.whose(0, 1), 99);
        x.says(1, 23, 0);
        x.flush(1);
        Checks.due("least byte", x.whose(0, 1), 0);
        TwinTreeVolume full = Given.free();
        Checks.due("block 63 is a page's", full.whose(63, 0), 115);
        Checks.due("no block is free", full.count(0), 0);
    }

    private static void freeRuns() {
        Quotes.terms("FREE RUN: FREE BLOCKS on end, with none FREE just ahead of or behind them; its START, its SIZE.",
                14, 41);
        Given.runs("all blocks", new TwinTreeVolume(), 0, 64);
        Given.runs("no block", Given.free());
        TwinTreeVolume x = Given.free(0, 1, 2, 2, 5, 3, 61, 3);
        Given.runs("at both ends and between", x, 0, 1, 2, 2, 5, 3, 61, 3);
        Given.open(x, 1, 1);
        Given.runs("one block makes two runs one", x, 0, 4, 5, 3, 61, 3);
        Given.open(x, 60, 1);
        Given.runs("one more ahead", x, 0, 4, 5, 3, 60, 4);
        Given.open(x, 8, 1);
        Given.runs("one more behind", x, 0, 4, 5, 4, 60, 4);
        Given.runs("the first block alone", Given.free(0, 1), 0, 1);
        Given.runs("the last block alone", Given.free(63, 1), 63, 1);
        TwinTreeVolume most = Given.lone(32);
        Checks.due("most runs", most.count(3), 32);
        Checks.due("last of them", most.byPlace(31, 0), 6201);
        Checks.due("no 33rd", most.byPlace(32, 0), -1);
    }

    private static void files() {
        Quotes.terms("FILES 0 .. 3, always there, each of a KIND (0 at first), with PAGES 0 .. 23.", 1, 4, 5, 7, 13);
        TwinTreeVolume x = new TwinTreeVolume();
        for (int f = 0; f < 4; f++) {
            Checks.due("kind at first", x.file(f, 0), 0);
            Checks.due("page 0", x.page(f, 0, 0), -9);
            Checks.due("page 23", x.page(f, 23, 0), -9);
            Checks.due("page -1", x.page(f, -1, 0), -1);
            Checks.due("page 24", x.page(f, 24, 0), -1);
        }
        Checks.due("file -1", x.file(-1, 0), -1);
        Checks.due("file 4", x.file(4, 0), -1);
        x.kind(2, 5);
        Checks.due("each of its own kind", 1000 * x.file(0, 0) + 100 * x.file(1, 0) + 10 * x.file(2, 0) + x.file(3, 0),
                50);
        Checks.due("the last page of the last file", x.says(3, 23, 1), 0);
        Checks.due("waits", x.page(3, 23, 2), 1);
        x.punch(3, 0, 24);
        Checks.due("a file of holes is there", x.file(3, 1), 0);
    }

    private static void pages() {
        Quotes.terms("A PAGE is PLACED at a BLOCK or not (at first); a PLACED one is WRITTEN or not; any one WAITS,"
                + " with a value (0 .. 99), or not (at first).", 1, 4, 7, 8, 10);
        TwinTreeVolume x = new TwinTreeVolume();
        Given.page("at first", x, 1, 7, -9, 0, -9);
        x.says(1, 7, 0);
        Given.page("waits with 0, not placed", x, 1, 7, -9, 0, 0);
        Checks.due("0 is a value", x.file(1, 2), 1);
        x.ahead(1, 0, 1);
        Given.page("placed, not written", x, 1, 0, 0, 0, -9);
        x.says(1, 0, 99);
        Given.page("placed, not written, waits with 99", x, 1, 0, 0, 0, 99);
        x.flush(1);
        Given.page("placed and written", x, 1, 0, 0, 1, -9);
        x.says(1, 0, 0);
        Given.page("placed and written, waits with 0", x, 1, 0, 0, 1, 0);
        Checks.due("no value -1", x.says(1, 0, -1), -4);
        Checks.due("no value 100", x.says(1, 0, 100), -6);
    }

    private static void holes() {
        Quotes.terms("HOLE: neither PLACED nor WAITING.", 8, 28);
        TwinTreeVolume x = new TwinTreeVolume();
        // Page 0 is placed, 1 placed and waits, 2 waits, 3 is a hole, as all behind it.
        x.ahead(0, 0, 2);
        Given.says(x, 0, 1, 5, 6);
        Checks.due("holes", x.most(0), 21);
        Checks.due("one hole among four pages", x.ahead(0, 0, 4), 1);
        Given.places("the hole alone is put", x, 0, 0, 0, 1, -9, 2);
        x.punch(0, 0, 24);
        Checks.due("all are holes", x.most(0), 24);
    }

    private static void reserved() {
        Quotes.terms("RESERVED: how many PAGES WAIT and are not PLACED.", 5, 41);
        TwinTreeVolume x = new TwinTreeVolume();
        Checks.due("none", x.count(1), 0);
        x.ahead(0, 0, 2);
        x.says(0, 0, 1);
        Checks.due("a placed one that waits is none", x.count(1), 0);
        x.says(0, 5, 0);
        x.says(1, 5, 1);
        x.says(2, 5, 1);
        x.says(3, 23, 1);
        Checks.due("of all files", x.count(1), 4);
        Checks.due("of one file", x.file(0, 3), 1);
        x.says(3, 23, 2);
        Checks.due("one that waits already counts once", x.count(1), 4);
        x.flush(3);
        Checks.due("a flushed one is none", x.count(1), 3);
        x.punch(2, 5, 1);
        Checks.due("a punched one is none", x.count(1), 2);
        x.crash(3, 0);
        Checks.due("none behind a crash", x.count(1), 0);
    }

    private static void room() {
        Quotes.terms("ROOM: how many BLOCKS are FREE, less RESERVED (never below 0).", 7, 8, 41);
        TwinTreeVolume x = Given.free(10, 3);
        Checks.due("all that is free", x.count(2), 3);
        Given.says(x, 0, 0, 1, 2);
        Checks.due("less those that wait", x.count(2), 1);
        Checks.due("free all the same", x.count(0), 3);
        x.says(1, 20, 3);
        Checks.due("none", x.count(2), 0);
        Checks.due("one more can not be said", x.says(0, 2, 1), -6);
        Checks.due("nor put", x.ahead(0, 2, 1), -6);
        Checks.due("never below 0", x.count(2), 0);
        x.flush(0);
        Checks.due("what was promised is placed", x.count(0), 1);
        Checks.due("still none", x.count(2), 0);
        x.punch(1, 20, 1);
        Checks.due("a promise that is gone is room", x.count(2), 1);
        x.punch(0, 0, 1);
        Checks.due("a block that is free is room", x.count(2), 2);
        Checks.due("room of all", new TwinTreeVolume().count(2), 64);
    }

    private static void extents() {
        Quotes.terms("EXTENTS of a FILE: PAGES on end PLACED at BLOCKS on end, all WRITTEN or all not, as many as can be;"
                + " how many there are.", 5, 19, 41);
        Checks.due("none", new TwinTreeVolume().file(0, 4), 0);
        Checks.due("one page", Given.at(9).file(0, 4), 1);
        Checks.due("a whole file", Given.free().file(3, 4), 1);
        Checks.due("of all files", Given.free().count(5), 3);
        TwinTreeVolume gapOfPages = Given.at(9, 10, 1);
        gapOfPages.ahead(0, 2, 1);
        Given.places("blocks on end", gapOfPages, 0, 0, 9, -9, 10);
        Checks.due("pages not on end", gapOfPages.file(0, 4), 2);
        TwinTreeVolume gapOfBlocks = Given.at(9, 11, 1);
        gapOfBlocks.ahead(0, 1, 1);
        Checks.due("blocks not on end", gapOfBlocks.file(0, 4), 2);
        TwinTreeVolume backward = Given.at(9, 8, 1);
        backward.ahead(0, 1, 1);
        Given.places("blocks on end, but backward", backward, 0, 0, 9, 8);
        Checks.due("backward", backward.file(0, 4), 2);
        TwinTreeVolume x = Given.at(9, 10, 3);
        x.ahead(0, 1, 3);
        Checks.due("all not written", x.file(0, 4), 1);
        x.says(0, 1, 1);
        x.flush(0);
        Checks.due("one written between", x.file(0, 4), 3);
        x.says(0, 0, 1);
        x.flush(0);
        Checks.due("two written, two not", x.file(0, 4), 2);
        Given.says(x, 0, 2, 1, 1);
        Checks.due("waiting makes no difference", x.file(0, 4), 2);
        x.flush(0);
        Checks.due("all written", x.file(0, 4), 1);
        // The last page of file 0 and the first of file 1 are at blocks on end.
        TwinTreeVolume two = new TwinTreeVolume();
        two.ahead(0, 23, 1);
        two.ahead(1, 0, 1);
        Checks.due("of the one", two.file(0, 4), 1);
        Checks.due("of the other", two.file(1, 4), 1);
        Checks.due("of both", two.count(5), 2);
        TwinTreeVolume most = Given.lone(24);
        most.ahead(0, 0, 24);
        Checks.due("most", most.file(0, 4), 24);
    }

    private static void said() {
        Quotes.terms("SAID: the PAGE WAITS with that value from now on; one that is neither PLACED nor WAITS must have"
                + " ROOM of 1 or more.", 3, 7, 28, 38);
        TwinTreeVolume x = Given.free(30, 2);
        Checks.due("room 2", x.says(0, 0, 5), 0);
        Checks.due("waits with it", x.page(0, 0, 2), 5);
        Checks.due("room 1", x.says(0, 1, 6), 0);
        Checks.due("room 0", x.says(0, 2, 7), -6);
        Given.page("nothing waits", x, 0, 2, -9, 0, -9);
        Checks.due("one that waits", x.says(0, 1, 8), 6);
        Checks.due("waits with the new value", x.page(0, 1, 2), 8);
        Checks.due("one that is placed", x.says(3, 0, 9), 0);
        Checks.due("waits", x.page(3, 0, 2), 9);
        Checks.due("one that is placed and waits", x.says(3, 0, 0), 9);
        Checks.due("waits with 0", x.page(3, 0, 2), 0);
        Checks.due("not even of another file", x.says(1, 23, 1), -6);
    }

    private static void ahead() {
        Quotes.terms("AHEAD (n PAGES from one on): each series of HOLES on end among them (as long as can be, by PAGES)"
                + " is PUT; ROOM must be at least the number of these HOLES.", 3, 8);
        int[] gaps = {1, 1, 5, 2, 10, 3, 20, 4};
        TwinTreeVolume one = Given.free(gaps);
        Checks.due("a series of three", one.ahead(0, 0, 3), 3);
        Given.places("as long as can be", one, 0, 0, 10, 11, 12, -9);
        TwinTreeVolume among = Given.free(gaps);
        Checks.due("two of many holes", among.ahead(0, 4, 2), 2);
        Given.places("among them alone", among, 0, 3, -9, 5, 6, -9);
        TwinTreeVolume parted = Given.free(gaps);
        parted.says(0, 2, 7);
        Checks.due("two series", parted.ahead(0, 0, 6), 5);
        Given.places("parted by one that waits", parted, 0, 0, 5, 6, -9, 10, 11, 12);
        TwinTreeVolume byPages = Given.free(5, 2, 10, 2);
        byPages.says(0, 1, 7);
        Checks.due("room for two of three", byPages.ahead(0, 0, 3), 2);
        Given.places("by pages", byPages, 0, 0, 5, -9, 6);
        TwinTreeVolume placed = Given.free(1, 1, 40, 1, 50, 1);
        placed.ahead(0, 2, 1);
        Checks.due("two series", placed.ahead(0, 1, 3), 2);
        Given.places("parted by a placed one", placed, 0, 1, 40, 1, 50);
        TwinTreeVolume exact = Given.free(5, 2, 10, 2);
        exact.says(1, 20, 1);
        Checks.due("room 3 for 4", exact.ahead(0, 0, 4), -6);
        Given.places("nothing is put", exact, 0, 0, -9, -9, -9, -9);
        Checks.due("room 3 for 3", exact.ahead(0, 0, 3), 3);
        Checks.due("room 0 for 1", exact.ahead(0, 0, 4), -6);
        Checks.due("room 0 for none", exact.ahead(0, 0, 3), 0);
    }

    private static void punched() {
        Quotes.terms("PUNCHED (n PAGES from one on): they are HOLES then, their BLOCKS FREE.", 3, 9);
        TwinTreeVolume x = new TwinTreeVolume();
        Given.says(x, 2, 0, 10, 11, 12);
        x.flush(2);
        x.ahead(2, 3, 1);
        Given.says(x, 2, 2, 22, 23, 24, 25);
        Checks.due("pages 1 to 4: written, waiting again, not written, not placed", x.punch(2, 1, 4), 3);
        for (int p = 1; p <= 4; p++) {
            Given.page("page " + p, x, 2, p, -9, 0, -9);
            Checks.due("read " + p, x.read(2, p), 0);
        }
        Given.page("just ahead", x, 2, 0, 0, 1, -9);
        Given.page("just behind", x, 2, 5, -9, 0, 25);
        Given.runs("their blocks", x, 1, 63);
        Checks.due("the last page", x.punch(2, 23, 1), 0);
        Checks.due("all pages", x.punch(2, 0, 24), 1);
        Given.runs("all blocks", x, 0, 64);
        // A page that is placed again is not written, whatever it was.
        x.ahead(2, 0, 1);
        Given.page("placed again", x, 2, 0, 0, 0, -9);
    }

    private static void flushed() {
        Quotes.terms("FLUSHED: each series of PAGES on end that WAIT and are not PLACED (as long as can be, by PAGES) is"
                + " PUT; then of each WAITING PAGE of the FILE, by PAGES, the BYTE of its BLOCK becomes its value, and"
                + " then it is WRITTEN and WAITS no more.", 3, 10);
        int[] gaps = {1, 1, 5, 2, 10, 3, 20, 5};
        TwinTreeVolume x = Given.free(gaps);
        // Series: 0 to 2, 4, 6 and 7; page 3 is a hole, page 5 is placed and waits.
        x.ahead(0, 5, 1);
        Given.says(x, 0, 0, 50, 51, 52);
        Given.says(x, 0, 4, 54, 55, 56, 57);
        x.says(1, 23, 9);
        x.flush(0);
        Given.places("series of 3, 1 and 2", x, 0, 0, 10, 11, 12, -9, 5, 1, 20, 21);
        int[] blocks = {10, 11, 12, -9, 5, 1, 20, 21};
        for (int p = 0; p < 8; p++) {
            boolean isHole = blocks[p] < 0;
            Given.page("page " + p, x, 0, p, blocks[p], isHole ? 0 : 1, -9);
            Checks.due("byte of " + p, isHole ? 0 : x.whose(blocks[p], 1), isHole ? 0 : 50 + p);
        }
        Given.page("of another file", x, 1, 23, -9, 0, 9);
        TwinTreeVolume all = new TwinTreeVolume();
        for (int p = 0; p < 24; p++) {
            all.says(3, p, p);
        }
        all.flush(3);
        Checks.due("all pages", all.file(3, 6), 24);
        Checks.due("the last page", all.read(3, 23), 23);
        // A page that is placed ahead and does not wait stays not written.
        TwinTreeVolume idle = new TwinTreeVolume();
        idle.ahead(0, 0, 2);
        idle.says(0, 1, 5);
        idle.flush(0);
        Given.page("one that does not wait", idle, 0, 0, 0, 0, -9);
        Given.page("one that waited", idle, 0, 1, 1, 1, -9);
    }

    private static void steps() {
        Quotes.terms("STEPS of a FLUSH, in order: 1 for each PIECE that is PUT, then for each WAITING PAGE 1 for its BYTE"
                + " and 1 for its being WRITTEN.", 10, 12, 22, 23);
        TwinTreeVolume none = new TwinTreeVolume();
        Checks.due("nothing waits", none.flush(0), 0);
        none.says(1, 0, 5);
        Checks.due("of another file", none.flush(0), 0);
        TwinTreeVolume placed = Given.at(9);
        placed.says(0, 0, 5);
        Checks.due("a placed page", placed.flush(0), 2);
        TwinTreeVolume split = Given.free(1, 2, 10, 3);
        Given.says(split, 0, 0, 1, 2, 3, 4, 5);
        Checks.due("a series of two pieces", split.flush(0), 12);
        TwinTreeVolume most = Given.lone(24);
        for (int p = 0; p < 24; p++) {
            most.says(0, p, 1);
        }
        Checks.due("most", most.steps(0), 72);
        Checks.due("most", most.flush(0), 72);
        // Two pieces (pages 0 and 1; 3), then byte and written of 0, of 1, of 3.
        for (int k = 0; k <= 9; k++) {
            TwinTreeVolume x = new TwinTreeVolume();
            Given.says(x, 0, 0, 10, 11);
            x.says(0, 3, 13);
            x.crash(0, k);
            Checks.due("placed behind " + k, x.file(0, 1), k == 0 ? 0 : k == 1 ? 2 : 3);
            int[] pages = {0, 1, 3};
            for (int i = 0; i < 3; i++) {
                Checks.due("byte " + i + " behind " + k, x.whose(i, 1), k >= 3 + 2 * i ? 10 + pages[i] : 0);
                Checks.due("written " + i + " behind " + k, x.page(0, pages[i], 1), k >= 4 + 2 * i ? 1 : 0);
            }
        }
    }

    private static void crash() {
        Quotes.terms("CRASH: only the first k STEPS of a FLUSH are made (all, if there are fewer); then nothing of any"
                + " FILE WAITS any more.", 3, 12, 23);
        for (int k : new int[] {0, 2, 3, 4, 99}) {
            TwinTreeVolume x = new TwinTreeVolume();
            x.says(1, 4, 40);
            for (int f = 0; f < 4; f++) {
                x.says(f, 8, 80 + f);
            }
            // Steps of file 1: two pieces, two pages.
            x.crash(1, k);
            Checks.due("placed behind " + k, x.file(1, 1), Math.min(k, 2));
            Checks.due("written behind " + k, x.file(1, 6), k < 4 ? 0 : k < 6 ? 1 : 2);
            for (int f = 0; f < 4; f++) {
                Checks.due("nothing waits behind " + k, x.file(f, 2), 0);
                Checks.due("others are not flushed", f == 1 ? 0 : x.file(f, 1), 0);
            }
            Checks.due("nothing is promised", x.count(1), 0);
        }
        // A placed page that waits reads its byte again, or the new one, if its step was made.
        TwinTreeVolume x = new TwinTreeVolume();
        x.says(0, 0, 5);
        x.flush(0);
        x.says(0, 0, 6);
        x.image();
        x.crash(0, 0);
        Checks.due("the old byte", x.read(0, 0), 5);
        x.on();
        x.crash(0, 1);
        Checks.due("the new byte", x.read(0, 0), 6);
    }

    private static void settled() {
        Quotes.terms("SETTLED: all PLACED PAGES of a FILE, in order, go to the first BLOCKS of the least FREE RUN whose"
                + " SIZE is their number or more (of several the first; there must be one; it must have a PLACED PAGE),"
                + " BYTES with them, WRITTEN or not as they were; then their old BLOCKS are FREE (with the BYTES they"
                + " had).", 3, 11, 29);
        TwinTreeVolume none = new TwinTreeVolume();
        Checks.due("no placed page", none.settle(0), -3);
        none.says(0, 0, 1);
        Checks.due("one that waits is not placed", none.settle(0), -3);
        TwinTreeVolume tight = Given.at(30, 3, 1, 8, 1);
        tight.ahead(0, 5, 1);
        Given.places("two pages", tight, 0, 5, 3);
        Checks.due("no run for two", tight.settle(0), -3);
        Given.open(tight, 9, 1);
        Checks.due("a run of two", tight.settle(0), 8);
        Given.places("first pages first", tight, 0, 0, 8, -9, -9, -9, -9, 9);
        Given.runs("the old blocks are free", tight, 3, 1, 30, 1);
        // Old blocks are free only then: block 30 beside the free block 31 is no run for two.
        TwinTreeVolume beside = Given.at(30, 31, 1, 50, 1);
        beside.kind(0, CLOSE);
        beside.ahead(0, 5, 1);
        Given.places("two pages", beside, 0, 5, 31);
        Given.open(beside, 32, 1);
        Checks.due("one free block each", beside.settle(0), -3);
        TwinTreeVolume several = Given.at(30, 3, 5, 12, 4, 20, 4);
        several.ahead(0, 1, 4);
        several.punch(0, 1, 1);
        Given.places("at the first of the least", several, 0, 2, 13, 14, 15);
        Checks.due("the least run for four", several.settle(0), 20);
        TwinTreeVolume first = Given.at(30, 3, 5, 12, 4, 20, 4);
        Checks.due("of several the first", first.settle(0), 12);
        Given.runs("the rest of the run is free", first, 3, 5, 13, 3, 20, 4, 30, 1);
        bytesGoAlong();
    }

    private static void bytesGoAlong() {
        TwinTreeVolume x = new TwinTreeVolume();
        Given.says(x, 0, 0, 70, 71);
        x.flush(0);
        // Page 5 comes to a block with a byte of its own, and is not written.
        x.says(1, 0, 72);
        x.flush(1);
        x.punch(1, 0, 1);
        x.ahead(0, 5, 1);
        x.says(0, 1, 99);
        x.says(0, 9, 98);
        Checks.due("settled behind itself", x.settle(0), 3);
        Given.page("written", x, 0, 0, 3, 1, -9);
        Given.page("written, waits as it did", x, 0, 1, 4, 1, 99);
        Given.page("not written", x, 0, 5, 5, 0, -9);
        Given.page("not placed, waits as it did", x, 0, 9, -9, 0, 98);
        for (int i = 0; i < 3; i++) {
            Checks.due("byte came along", x.whose(3 + i, 1), 70 + i);
            Checks.due("old block is nobody's", x.whose(i, 0), -9);
            Checks.due("old block keeps its byte", x.whose(i, 1), 70 + i);
        }
        Checks.due("settled at block 0", x.settle(0), 0);
        Given.runs("free behind it", x, 3, 61);
    }

    private static void put() {
        Quotes.terms("PUT: a series of n PAGES from PAGE p on comes to BLOCKS by KIND, not WRITTEN, in PIECES: is a FREE"
                + " RUN of SIZE n or more there, it is one PIECE at n BLOCKS on end; else the PIECE is the whole of the"
                + " greatest FREE RUN (of several the first), for the first PAGES of the series, and the rest is PUT"
                + " likewise.", 8, 10);
        TwinTreeVolume exact = Given.free(5, 3, 20, 2);
        exact.ahead(0, 0, 3);
        Given.places("a run of just n", exact, 0, 0, 5, 6, 7);
        Given.page("not written", exact, 0, 0, 5, 0, -9);
        for (int kind = PLAIN; kind <= CLOSE; kind++) {
            TwinTreeVolume x = Given.free(1, 1, 5, 3, 20, 3, 40, 2);
            x.kind(0, kind);
            x.ahead(0, 0, 4);
            // Of the runs of three the first is the first piece; the one page that is left is by kind.
            int[] rest = {1, 1, 1, 20, 1, 1};
            Given.places("kind " + kind + ", no run of four", x, 0, 0, 5, 6, 7, rest[kind]);
            TwinTreeVolume goal = Given.at(30, 31, 1, 40, 4, 50, 4);
            goal.kind(0, kind);
            goal.ahead(0, 1, 5);
            int[] left = {31, 31, 31, 50, 31, 50};
            Given.places("kind " + kind + ", no run of five", goal, 0, 1, 40, 41, 42, 43, left[kind]);
            // A run as great as the first is at the goal, another one at a multiple of 4.
            TwinTreeVolume alike = Given.at(30, 5, 4, 31, 4, 40, 4);
            alike.kind(0, kind);
            alike.ahead(0, 1, 5);
            Given.places("kind " + kind + ", of several the first", alike, 0, 1, 5, 6, 7, 8, kind == HIGH ? 34 : 31);
        }
        TwinTreeVolume all = Given.free(1, 1, 5, 2, 20, 3);
        Given.says(all, 0, 0, 1, 2, 3, 4, 5, 6);
        Checks.due("three pieces, six pages", all.flush(0), 15);
        Given.places("greatest first", all, 0, 0, 20, 21, 22, 5, 6, 1);
        Given.runs("nothing is left", all);
        TwinTreeVolume high = Given.free(5, 4, 20, 5);
        high.kind(0, HIGH);
        high.ahead(0, 0, 7);
        Given.places("the rest, high", high, 0, 0, 20, 21, 22, 23, 24, 7, 8);
    }

    private static void goal() {
        Quotes.terms("GOAL of a PIECE: the BLOCK behind that of the PAGE ahead of its first one, if that is PLACED and"
                + " such a BLOCK is there; else none.", 8, 10);
        TwinTreeVolume behind = Given.at(20, 5, 2, 19, 1, 21, 2);
        behind.kind(0, NEAR);
        behind.ahead(0, 1, 1);
        Given.places("the block behind", behind, 0, 1, 21);
        TwinTreeVolume origin = Given.at(0, 1, 2, 20, 1);
        origin.kind(0, NEAR);
        origin.ahead(0, 1, 1);
        Given.places("behind block 0", origin, 0, 1, 1);
        // Page 23 of one file is not ahead of page 0 of the next.
        TwinTreeVolume first = Given.free(20, 1);
        first.punch(1, 0, 1);
        first.ahead(0, 23, 1);
        Given.places("the last page of file 0", first, 0, 23, 20);
        Given.open(first, 5, 1, 21, 2);
        first.kind(1, NEAR);
        first.ahead(1, 0, 1);
        Given.places("page 0 has none", first, 1, 0, 5);
        TwinTreeVolume hole = Given.at(20, 5, 1, 21, 2);
        hole.kind(0, NEAR);
        hole.ahead(0, 2, 1);
        Given.places("behind a hole none", hole, 0, 2, 5);
        TwinTreeVolume waits = Given.at(20, 5, 1, 21, 2);
        waits.kind(0, NEAR);
        waits.says(0, 1, 1);
        waits.ahead(0, 2, 1);
        Given.places("behind one that waits, not placed, none", waits, 0, 2, 5);
        // Were there a block 64, the run at 40 would be the nearest to it.
        TwinTreeVolume last = Given.at(63, 5, 2, 40, 3);
        last.kind(0, CLOSE);
        last.ahead(0, 1, 2);
        Given.places("behind block 63 none", last, 0, 1, 5, 6);
        TwinTreeVolume lastButOne = Given.at(62, 5, 1, 63, 1);
        lastButOne.kind(0, NEAR);
        lastButOne.ahead(0, 1, 1);
        Given.places("behind block 62 the last", lastButOne, 0, 1, 63);
        // The second piece is behind the first one: its goal is 24.
        TwinTreeVolume piece = Given.free(2, 2, 20, 4, 30, 3);
        piece.kind(0, CLOSE);
        piece.ahead(0, 0, 6);
        Given.places("of a second piece", piece, 0, 0, 20, 21, 22, 23, 30, 31);
    }

    /** Where n pages of file 0 from a page on begin, by a kind. */
    private static void begins(String what, TwinTreeVolume x, int kind, int page, int n, int block) {
        x.kind(0, kind);
        x.ahead(0, page, n);
        for (int i = 0; i < n; i++) {
            Checks.due(what + ": block of page " + (page + i), x.page(0, page + i, 0), block + i);
        }
    }

    private static void plain() {
        Quotes.terms("KINDS of FILES: where one PIECE of all n begins. 0 p PLAIN: at the START of the least FREE RUN of"
                + " SIZE n or more, of several the first.", 8, 10, 13);
        begins("just n", Given.free(5, 4, 12, 2, 20, 3), PLAIN, 0, 3, 20);
        begins("more than n", Given.free(5, 4, 12, 1, 20, 3), PLAIN, 0, 2, 20);
        begins("of several the first", Given.free(5, 4, 12, 3, 20, 3), PLAIN, 0, 3, 12);
        begins("no goal", Given.at(30, 5, 2, 31, 3), PLAIN, 1, 2, 5);
        begins("all blocks", new TwinTreeVolume(), PLAIN, 0, 24, 0);
    }

    private static void near() {
        Quotes.terms("1 n NEAR under PLAIN: at its GOAL, if the n BLOCKS from there on are all FREE; else as PLAIN.",
                8, 10, 13);
        begins("just n from the goal on", Given.at(20, 5, 4, 21, 4), NEAR, 1, 4, 21);
        begins("one fewer", Given.at(20, 5, 4, 21, 3), NEAR, 1, 4, 5);
        begins("one fewer ahead of a free one", Given.at(20, 5, 4, 21, 3, 25, 9), NEAR, 1, 4, 5);
        begins("the goal is taken", Given.at(20, 5, 4, 22, 4), NEAR, 1, 4, 5);
        begins("just up to block 63", Given.at(60, 5, 3, 61, 3), NEAR, 1, 3, 61);
        begins("past block 63", Given.at(60, 5, 4, 61, 3), NEAR, 1, 4, 5);
        begins("behind block 0", Given.at(0, 1, 4, 20, 3), NEAR, 1, 3, 1);
        begins("no goal", Given.at(20, 5, 4, 21, 5), NEAR, 2, 4, 5);
        begins("no goal, of several the first", Given.at(20, 5, 5, 21, 5), NEAR, 2, 4, 5);
    }

    private static void striped() {
        Quotes.terms("2 s STRIPED under NEAR: if n is 4 or more, at the first multiple of 4 from which on n BLOCKS are"
                + " FREE, if there is one; else as NEAR.", 8, 10, 13);
        begins("n 4", Given.at(20, 21, 4, 33, 7), STRIPED, 1, 4, 36);
        begins("n 3", Given.at(20, 21, 4, 33, 7), STRIPED, 1, 3, 21);
        begins("n 4, one too few behind the multiple", Given.at(20, 21, 4, 33, 6), STRIPED, 1, 4, 21);
        begins("no multiple, no goal", Given.at(20, 33, 6, 49, 5), STRIPED, 1, 4, 49);
        begins("block 0 is a multiple", Given.at(20, 0, 4, 21, 4), STRIPED, 1, 4, 0);
        begins("the last multiple", Given.at(20, 41, 5, 59, 5), STRIPED, 1, 4, 60);
        begins("n 5 at the last multiple", Given.at(20, 41, 5, 59, 5), STRIPED, 1, 5, 41);
        begins("of several the first, not the least", Given.at(20, 9, 10, 32, 4), STRIPED, 1, 4, 12);
        begins("n 5 from the multiple on", Given.at(20, 9, 8, 30, 8), STRIPED, 1, 5, 12);
        begins("n 6 from the next one on", Given.at(20, 9, 8, 30, 8), STRIPED, 1, 6, 32);
        begins("without a goal, too", Given.free(2, 8), STRIPED, 0, 4, 4);
    }

    private static void great() {
        Quotes.terms("3 g GREAT under PLAIN: at the START of the greatest FREE RUN, of several the first.", 8, 10, 13);
        begins("the greatest", Given.at(20, 5, 2, 21, 3, 30, 5, 40, 4), GREAT, 1, 2, 30);
        begins("of several the first", Given.at(20, 5, 4, 21, 3, 30, 5, 40, 5), GREAT, 1, 2, 30);
        begins("at block 0", Given.at(20, 0, 3, 40, 3), GREAT, 1, 3, 0);
    }

    private static void high() {
        Quotes.terms("4 h HIGH under PLAIN: so that the last BLOCK of the FREE RUN that a PLAIN one takes is its last.",
                8, 10, 13);
        begins("just n", Given.at(20, 5, 5, 21, 3, 30, 4, 40, 4), HIGH, 1, 3, 21);
        begins("one more than n", Given.at(20, 5, 5, 30, 4, 40, 4), HIGH, 1, 3, 31);
        begins("just n, of several the first", Given.at(20, 5, 5, 30, 4, 40, 4), HIGH, 1, 4, 30);
        begins("n 1", Given.at(20, 5, 5, 30, 4, 40, 4), HIGH, 1, 1, 33);
        begins("up to block 63", new TwinTreeVolume(), HIGH, 0, 1, 63);
    }

    private static void close() {
        Quotes.terms("5 c CLOSE under NEAR: at its GOAL as a NEAR one; else, if it has a GOAL, at the START of that FREE"
                + " RUN of SIZE n or more whose START is nearest to the GOAL, of several the first; else as PLAIN.",
                8, 10, 13);
        begins("just n from the goal on", Given.at(20, 5, 3, 21, 3), CLOSE, 1, 3, 21);
        begins("one fewer", Given.at(20, 5, 4, 21, 2, 40, 3), CLOSE, 1, 3, 5);
        begins("nearest ahead", Given.at(20, 12, 4, 31, 4, 50, 3), CLOSE, 1, 3, 12);
        begins("nearest behind", Given.at(20, 12, 4, 29, 4, 50, 3), CLOSE, 1, 3, 29);
        begins("as far ahead as behind", Given.at(20, 12, 4, 30, 4, 50, 3), CLOSE, 1, 3, 12);
        begins("by start, not by end", Given.at(20, 5, 10, 36, 4, 50, 3), CLOSE, 1, 3, 36);
        begins("of size n or more", Given.at(20, 19, 1, 22, 2, 36, 4, 50, 3), CLOSE, 1, 3, 36);
        begins("no goal", Given.at(20, 12, 4, 21, 4, 50, 3), CLOSE, 2, 3, 50);
        begins("no goal, page 0", Given.free(12, 4, 50, 3), CLOSE, 0, 3, 50);
    }
}
