/** Boundary cases of "Promise 1: A new object" to "Promise 41: count", but for what each call refuses. */
final class EdgesOfCalls {
    private EdgesOfCalls() {
    }

    static void run() {
        newObject();
        letter();
        page();
        file();
        says();
        ahead();
        punch();
        flush();
        settle();
        crash();
        kind();
        runs();
        blocks();
        mind();
        losses();
        pairs();
        fractions();
        rows();
        judge();
        forged();
        lots();
        image();
        count();
        otherCounts();
    }

    private static void newObject() {
        Quotes.promise(1, "All BLOCKS FREE with BYTE 0, all PAGES HOLES, all FILES PLAIN.");
        TwinTreeVolume x = new TwinTreeVolume();
        for (int b = 0; b < 64; b++) {
            Checks.due("whose is " + b, x.whose(b, 0), -9);
            Checks.due("byte of " + b, x.whose(b, 1), 0);
        }
        Checks.due("nothing is counted", x.count(6) + x.count(7) + x.count(1) + x.count(5), 0);
        for (int what = 11; what <= 16; what++) {
            Checks.due("nothing was refused", x.count(what), 0);
        }
        Checks.due("no image", x.on(), -3);
        TwinTreeVolume pages = new TwinTreeVolume();
        for (int f = 0; f < 4; f++) {
            Checks.due("kind", pages.file(f, 0), 0);
            for (int p = 0; p < 24; p++) {
                Given.page("page", pages, f, p, -9, 0, -9);
            }
        }
        // One object knows nothing of another.
        TwinTreeVolume used = Checks.made("k0g;w00005;f0;");
        used.image();
        Checks.due("a new one behind it", new TwinTreeVolume().count(0), 64);
        Checks.due("a new one has no image", new TwinTreeVolume().on(), -3);
    }

    private static void letter() {
        Quotes.promise(2, "A letter (0 .. 255) comes: how many there are.");
        TwinTreeVolume x = new TwinTreeVolume();
        Checks.due("least", x.letter(0), 1);
        Checks.due("greatest", x.letter(255), 2);
        Checks.due("both are there", x.count(7), 2);
        Checks.due("in their order", x.volume(), -1000);
        for (int i = 1; i <= 96; i++) {
            Checks.due("letter " + i, x.letter('f'), i);
        }
        Checks.due("not a letter of a statement, but one", new TwinTreeVolume().letter(200), 1);
    }

    private static void page() {
        Quotes.promise(4, "Of a PAGE: 0 its BLOCK (-9 not PLACED), 1 WRITTEN (1, 0), 2 the value with which it WAITS (-9 it"
                + " does not).");
        TwinTreeVolume x = Given.free(63, 1);
        Given.page("a hole", x, 0, 23, -9, 0, -9);
        x.says(0, 23, 0);
        Given.page("waits with the least", x, 0, 23, -9, 0, 0);
        x.says(0, 23, 99);
        Given.page("waits with the greatest", x, 0, 23, -9, 0, 99);
        x.flush(0);
        Given.page("the last block", x, 0, 23, 63, 1, -9);
        Given.page("block 0", x, 3, 0, 0, 0, -9);
    }

    private static void file() {
        Quotes.promise(5, "Of a FILE: 0 KIND, 1 PLACED PAGES, 2 WAITING ones, 3 of these not PLACED, 4 EXTENTS, 5 DEPTH, 6"
                + " WRITTEN ones.");
        file(new TwinTreeVolume(), 3, 0, 0, 0, 0, 0, 0, 0);
        file(Given.free(), 3, 0, 24, 0, 0, 1, 0, 0);
        TwinTreeVolume x = new TwinTreeVolume();
        x.kind(2, 5);
        for (int p = 0; p < 24; p++) {
            x.says(2, p, 0);
        }
        file(x, 2, 5, 0, 24, 24, 0, 0, 0);
        x.flush(2);
        file(x, 2, 5, 24, 0, 0, 1, 0, 24);
        for (int p = 0; p < 24; p += 2) {
            x.says(2, p, 1);
        }
        file(x, 2, 5, 24, 12, 0, 1, 0, 24);
        x.punch(2, 1, 1);
        x.says(2, 1, 0);
        file(x, 2, 5, 23, 13, 1, 2, 0, 23);
        x.crash(0, 0);
        x.ahead(2, 1, 1);
        file(x, 2, 5, 24, 0, 0, 3, 0, 23);
        file(x, 1, 0, 0, 0, 0, 0, 0, 0);
    }

    private static void file(TwinTreeVolume x, int file, int... due) {
        for (int what = 0; what < due.length; what++) {
            Checks.due("file " + file + ", what " + what, x.file(file, what), due[what]);
        }
    }

    private static void says() {
        Quotes.promise(6, "READ.");
        TwinTreeVolume x = new TwinTreeVolume();
        Checks.due("a hole", x.read(3, 23), 0);
        x.says(3, 23, 99);
        Checks.due("waits", x.read(3, 23), 99);
        Checks.due("nothing changes", x.page(3, 23, 2), 99);
        Quotes.promise(7, "SAID: what was READ ahead of it.");
        Checks.due("a hole", x.says(0, 0, 0), 0);
        Checks.due("waited with the least", x.says(0, 0, 99), 0);
        Checks.due("waited with the greatest", x.says(0, 0, 50), 99);
        x.flush(0);
        Checks.due("written", x.says(0, 0, 51), 50);
        Checks.due("written, waits", x.says(0, 0, 0), 51);
        x.ahead(0, 1, 1);
        Checks.due("not written", x.says(0, 1, 7), 0);
        x.punch(0, 0, 1);
        Checks.due("a hole again", x.says(0, 0, 1), 0);
    }

    private static void ahead() {
        Quotes.promise(8, "AHEAD: how many HOLES are PUT.");
        TwinTreeVolume x = new TwinTreeVolume();
        Checks.due("the last page", x.ahead(1, 23, 1), 1);
        Checks.due("no hole", x.ahead(1, 23, 1), 0);
        x.says(1, 0, 5);
        Checks.due("all but one that waits and one that is placed", x.ahead(1, 0, 24), 22);
        Checks.due("none is left", x.ahead(1, 0, 24), 0);
        Checks.due("the one that waits has no block", x.page(1, 0, 0), -9);
        Checks.due("all", x.ahead(2, 0, 24), 24);
        Checks.due("room", x.count(2), 16);
        Checks.due("all the room there is", x.ahead(3, 8, 16), 16);
        Checks.due("none", x.count(2), 0);
    }

    private static void punch() {
        Quotes.promise(9, "PUNCHED: how many BLOCKS become FREE.");
        TwinTreeVolume x = Given.free(5, 1);
        Checks.due("a hole", x.punch(0, 0, 1), 0);
        x.says(0, 23, 5);
        Checks.due("one that waits", x.punch(0, 23, 1), 0);
        Checks.due("it waits no more", x.page(0, 23, 2), -9);
        Checks.due("holes alone", x.punch(0, 0, 24), 0);
        Checks.due("the last page", x.punch(3, 23, 1), 1);
        Checks.due("all pages, two of them holes", x.punch(3, 0, 24), 22);
        Checks.due("none is left", x.punch(3, 0, 24), 0);
    }

    private static void flush() {
        Quotes.promise(10, "FLUSHED: STEPS.");
        TwinTreeVolume x = new TwinTreeVolume();
        Checks.due("nothing waits", x.flush(3), 0);
        x.says(3, 23, 0);
        Checks.due("a piece, a byte, written", x.flush(3), 3);
        Checks.due("nothing waits any more", x.flush(3), 0);
        x.says(3, 23, 0);
        Checks.due("a byte, written", x.flush(3), 2);
        for (int p = 0; p < 24; p++) {
            x.says(2, p, p);
        }
        Checks.due("one piece, all pages", x.flush(2), 49);
    }

    private static void settle() {
        Quotes.promise(11, "SETTLED: the BLOCK of its first PLACED PAGE.");
        TwinTreeVolume x = Given.free(0, 1);
        x.ahead(0, 7, 1);
        Given.open(x, 63, 1);
        Checks.due("the last block", x.settle(0), 63);
        Checks.due("the first block", x.settle(0), 0);
        Checks.due("it is there", x.page(0, 7, 0), 0);
        TwinTreeVolume all = new TwinTreeVolume();
        all.ahead(2, 0, 24);
        Checks.due("all pages", all.settle(2), 24);
        Checks.due("and back", all.settle(2), 0);
        all.ahead(3, 0, 17);
        Checks.due("23 blocks for 24 pages", all.settle(2), -3);
        all.punch(3, 0, 1);
        Checks.due("24 blocks not on end", all.settle(2), -3);
        all.punch(3, 0, 24);
        all.ahead(3, 0, 16);
        Checks.due("24 for 24", all.settle(2), 40);
    }

    private static void crash() {
        Quotes.promise(12, "A CRASH: how many PAGES of all FILES WAITED still.");
        for (int k = 0; k <= 99; k += k < 8 ? 1 : 91) {
            TwinTreeVolume x = new TwinTreeVolume();
            x.says(0, 0, 1);
            x.flush(0);
            // A placed one, and two of one piece; one of another file waits with 0.
            x.says(0, 0, 0);
            Given.says(x, 0, 5, 0, 5);
            x.says(3, 23, 0);
            int written = k < 3 ? 0 : k < 5 ? 1 : k < 7 ? 2 : 3;
            Checks.due("crash behind " + k, x.crash(0, k), 4 - written);
            Checks.due("none waits any more", x.crash(0, k), 0);
        }
        Checks.due("none", new TwinTreeVolume().crash(3, 99), 0);
        TwinTreeVolume other = new TwinTreeVolume();
        other.says(1, 1, 1);
        Checks.due("a file of which none waits", other.crash(0, 99), 1);
    }

    private static void kind() {
        Quotes.promise(13, "KIND becomes another one: the KIND it had.");
        TwinTreeVolume x = new TwinTreeVolume();
        for (int f = 0; f < 4; f++) {
            Checks.due("plain at first", x.kind(f, 5), 0);
            Checks.due("the greatest", x.kind(f, 0), 5);
            Checks.due("the least", x.kind(f, 3), 0);
            Checks.due("becomes", x.file(f, 0), 3);
        }
        x.says(0, 0, 1);
        x.kind(0, 4);
        Checks.due("what waits is placed by the new one", x.flush(0), 3);
        Checks.due("high", x.page(0, 0, 0), 63);
        x.kind(0, 0);
        Checks.due("what is placed stays", x.page(0, 0, 0), 63);
    }

    private static void runs() {
        Quotes.promise(14, "BY PLACE (what 0), BY SIZE (1).");
        TwinTreeVolume x = Given.free(0, 2, 63, 1);
        Checks.due("first by place", x.byPlace(0, 0), 2);
        Checks.due("last by place", x.byPlace(1, 0), 6301);
        Checks.due("first by size", x.byPlace(0, 1), 6301);
        Checks.due("last by size", x.byPlace(1, 1), 2);
        Quotes.promise(15, "FIT; -9.");
        Checks.due("least", x.fit(1), 63);
        Checks.due("at block 0", x.fit(2), 0);
        Checks.due("none", x.fit(3), -9);
        Quotes.promise(16, "NEAREST; -9.");
        Checks.due("from the first block", x.nearest(0, 1), 0);
        Checks.due("from the last block", x.nearest(63, 1), 63);
        Checks.due("from the last block, of size 2", x.nearest(63, 2), 0);
        Checks.due("as near to the one: 31 of 63", x.nearest(31, 1), 0);
        Checks.due("nearer to the other one", x.nearest(32, 1), 63);
        Checks.due("none", x.nearest(0, 3), -9);
    }

    private static void blocks() {
        Quotes.promise(17, "WHOSE (what 0; -9), the BYTE (1).");
        TwinTreeVolume x = new TwinTreeVolume();
        x.says(3, 23, 99);
        x.kind(3, 4);
        x.flush(3);
        Checks.due("the last block", x.whose(63, 0), 323);
        Checks.due("its byte", x.whose(63, 1), 99);
        Checks.due("the first block", x.whose(0, 0), -9);
        Checks.due("its byte", x.whose(0, 1), 0);
        Quotes.promise(18, "STALE: FREE ones (what 0), not WRITTEN ones (1).");
        Checks.due("written", 10 * x.stale(0) + x.stale(1), 0);
        x.punch(3, 23, 1);
        Checks.due("free", 10 * x.stale(0) + x.stale(1), 10);
        x.ahead(3, 23, 1);
        Checks.due("not written", 10 * x.stale(0) + x.stale(1), 1);
        Quotes.promise(25, "GATHER: the first (what 0; -9), how many (1; -9).");
        TwinTreeVolume y = Given.free(0, 1, 62, 2);
        Checks.due("the first of one", y.gather(1, 0), 0);
        Checks.due("the first of two", y.gather(2, 0), 62);
        Checks.due("none of two", y.gather(2, 1), 0);
        Checks.due("the first of three", y.gather(3, 0), 61);
        Checks.due("one of three", y.gather(3, 1), 1);
        Checks.due("the first of four", y.gather(4, 0), -9);
        Checks.due("how many of four", y.gather(4, 1), -9);
    }

    private static void mind() {
        Quotes.promise(19, "SCATTER.");
        TwinTreeVolume x = Given.at(20, 5, 1, 21, 2);
        Given.says(x, 0, 1, 5, 6);
        Checks.due("two: 20 is not written", x.scatter(0), 2);
        x.says(0, 4, 7);
        Checks.due("three", x.scatter(0), 3);
        Checks.due("a file as it is", x.scatter(3), 3);
        Quotes.promise(20, "KIND BEST: which (what 0), EXTENTS (1).");
        x.says(0, 0, 9);
        Checks.due("which", x.kindBest(0, 0), 0);
        Checks.due("extents", x.kindBest(0, 1), 2);
        Quotes.promise(21, "ORDER (what 0), EXTENTS (1).");
        Checks.due("order", x.order(0), 1234);
        Checks.due("extents", x.order(1), 7);
        Quotes.promise(22, "STEPS.");
        Checks.due("two pieces, four pages", x.steps(0), 10);
        Checks.due("none", x.steps(1), 0);
        Quotes.promise(28, "MOST.");
        Checks.due("no room", x.most(0), 0);
        x.punch(0, 4, 1);
        Checks.due("room for one", x.most(0), 1);
        Checks.due("all", new TwinTreeVolume().most(0), 24);
        Quotes.promise(29, "LARGER.");
        Checks.due("to block 5, and 20 to 22 are free", x.larger(0), 1);
        Checks.due("no placed page", new TwinTreeVolume().larger(0), 0);
        Checks.due("less", Checks.made("a00024;").larger(0), -16);
    }

    private static void losses() {
        TwinTreeVolume x = new TwinTreeVolume();
        x.says(0, 0, 5);
        x.says(1, 0, 6);
        x.says(2, 0, 7);
        Quotes.promise(23, "LOSES (what 0), OTHERS (1).");
        Checks.due("behind none: of its own", x.loses(0, 0, 0), 1);
        Checks.due("behind none: of others", x.loses(0, 0, 1), 2);
        Checks.due("behind two: of its own", x.loses(0, 2, 0), 1);
        Checks.due("behind all: of its own", x.loses(0, 3, 0), 0);
        Checks.due("behind 99: of its own", x.loses(0, 99, 0), 0);
        Checks.due("behind 99: of others", x.loses(0, 99, 1), 2);
        Quotes.promise(24, "SAFE.");
        Checks.due("all steps", x.safe(0), 3);
        Checks.due("none", x.safe(3), 0);
    }

    private static void pairs() {
        TwinTreeVolume x = Given.rivals();
        Quotes.promise(26, "FIRST; -9.");
        Checks.due("the other way round", x.first(0, 1), 1);
        Checks.due("the one, then the other one", x.first(1, 0), 0);
        Checks.due("alike", x.first(2, 3), -9);
        // By the words of TWO the other one's choice never matters, so that -9 and the pairs 1 and 11 never come.
        Quotes.promise(27, "TWO; -9.");
        Checks.due("both left", x.two(0, 1), 0);
        Checks.due("the one flushed now", x.two(1, 0), 10);
        Checks.due("nothing waits", x.two(2, 3), 0);
    }

    private static void fractions() {
        TwinTreeVolume x = new TwinTreeVolume();
        x.says(0, 0, 5);
        x.says(0, 2, 5);
        // Lost 2, 2, 2, 2, 1, 1, 0 behind 0 .. 6.
        Quotes.promise(30, "LOST, part 0 above, 1 below the line.");
        Checks.due("above", x.lost(0, 0), 10);
        Checks.due("below", x.lost(0, 1), 7);
        Quotes.promise(31, "SURE.");
        Checks.due("page 0 above", x.sure(0, 0, 0), 3);
        Checks.due("page 0 below", x.sure(0, 0, 1), 7);
        Checks.due("page 2 above", x.sure(0, 2, 0), 1);
        Checks.due("page 1 above", x.sure(0, 1, 0), 1);
        Checks.due("page 1 below", x.sure(0, 1, 1), 1);
        Quotes.promise(32, "MEAN.");
        Checks.due("none above", x.mean(0), 0);
        Checks.due("none below", x.mean(1), 1);
        x.ahead(1, 0, 3);
        x.ahead(1, 9, 2);
        Checks.due("5 by 2 above", x.mean(0), 5);
        Checks.due("5 by 2 below", x.mean(1), 2);
    }

    private static void rows() {
        Quotes.promise(33, "WHICH by the ROW (it stays): KINDS (bits).");
        TwinTreeVolume x = new TwinTreeVolume();
        Given.says(x, 0, 0, 1, 2);
        Checks.due("none told", x.which(0), 63);
        x.row(62);
        Checks.due("high alone", x.which(0), 16);
        x.row(63);
        Checks.due("high alone, as many as there are", x.which(0), 16);
        Checks.due("it stays", x.count(6), 2);
        x.row(0);
        Checks.due("more than there are", x.which(0), -3);
        Checks.due("it stays", x.count(6), 3);
        Quotes.promise(34, "A number more of the ROW (0 .. 99): how many.");
        Checks.due("least", x.row(0), 4);
        Checks.due("greatest", x.row(99), 5);
        for (int i = 6; i <= 32; i++) {
            Checks.due("number " + i, x.row(i), i);
        }
        Quotes.promise(37, "The ROW has none then: how many it had.");
        Checks.due("a full one", x.clear(), 32);
        Checks.due("none", x.count(6), 0);
        Checks.due("of none", x.clear(), 0);
        Checks.due("a number then", x.row(5), 1);
        Checks.due("one", x.clear(), 1);
    }

    private static void judge() {
        Quotes.promise(35, "JUDGED; -9 (whichever it answers, the ROW has none then).");
        TwinTreeVolume x = Given.at(20);
        Checks.due("none told", x.judge(0), -9);
        Checks.row(x, 20, 99);
        Checks.due("so", x.judge(0), -9);
        Checks.due("the row has none then", x.count(6), 0);
        Checks.row(x, 20, 21, 99);
        Checks.due("not so", x.judge(0), 1);
        Checks.due("the row has none then", x.count(6), 0);
        Checks.row(x, 21);
        Checks.due("the first", x.judge(0), 0);
        Checks.due("the row has none then", x.count(6), 0);
        Checks.due("and tells nothing of what it told", x.judge(0), -9);
    }

    private static void forged() {
        Quotes.promise(36, "FORGED; -9 (the ROW has none then).");
        TwinTreeVolume x = Given.free(0, 1, 63, 1);
        Checks.row(x, 0, 1, 63, 1);
        Checks.due("so", x.forged(), -9);
        Checks.due("the row has none then", x.count(6), 0);
        Checks.due("none told", x.forged(), 0);
        Checks.row(x, 0, 1, 62, 1);
        Checks.due("not so", x.forged(), 1);
        Checks.due("the row has none then", x.count(6), 0);
        Checks.row(x, 0, 1, 63, 1, 99, 99);
        Checks.due("one that is not there", x.forged(), 2);
        Checks.due("the row has none then", x.count(6), 0);
        // The most that a row can tell: 16 pairs, of 17 runs.
        TwinTreeVolume many = Given.lone(17);
        for (int b = 0; b < 32; b += 2) {
            Checks.row(many, b, 1);
        }
        Checks.due("the 17th lacks", many.forged(), 16);
    }

    private static void lots() {
        Quotes.promise(38, "LOTS: EXTENTS (what 0), FREE RUNS (1).");
        TwinTreeVolume x = new TwinTreeVolume();
        Checks.due("free runs of one", x.lots(1, 5, 1), 1);
        Checks.due("free runs of 20", x.lots(20, 5, 1), 20);
        Checks.holds("extents of one", x.lots(1, 5, 0) >= 1 && x.lots(1, 5, 0) <= 8);
        Checks.holds("extents of 20", x.lots(20, 5, 0) >= 20 && x.lots(20, 5, 0) <= 160);
        Checks.due("nothing changes", x.count(0), 64);
        Checks.due("free runs where none is free", Given.free().lots(20, 5, 1), 0);
        Checks.holds("extents of 20 where none is free", Given.free().lots(20, 5, 0) >= 60);
    }

    private static void image() {
        Quotes.promise(39, "THE IMAGE is taken: how many BLOCKS are FREE.");
        TwinTreeVolume x = Given.free();
        Checks.due("none", x.image(), 0);
        x.punch(3, 0, 24);
        Quotes.promise(40, "ON from it: how many BLOCKS are FREE.");
        Checks.due("none", x.on(), 0);
        Checks.due("as then", x.count(0), 0);
        x.punch(3, 0, 24);
        Checks.due("24", x.image(), 24);
        x.punch(2, 0, 24);
        Checks.due("24", x.on(), 24);
        Checks.due("24 once more", x.on(), 24);
        Checks.due("all", new TwinTreeVolume().image(), 64);
        TwinTreeVolume waits = new TwinTreeVolume();
        waits.says(0, 0, 1);
        Checks.due("a promised one is free", waits.image(), 64);
    }

    private static void count() {
        Quotes.promise(41, "0 FREE BLOCKS, 1 RESERVED, 2 ROOM, 3 FREE RUNS, 4 the SIZE of the greatest FREE RUN (0 of none),"
                + " 5 EXTENTS of all FILES, 6 in the ROW, 7 letters, 11 .. 16 REFUSALS -1 .. -6.");
        counts("new", new TwinTreeVolume(), 64, 0, 64, 1, 64, 0, 0, 0);
        counts("full", Given.free(), 0, 0, 0, 0, 0, 3, 0, 0);
        TwinTreeVolume x = Given.free(0, 2, 30, 4, 60, 4);
        // File 3 keeps 2 to 23; file 2 keeps 24 to 29 and 34 to 47; file 1 keeps 48 to 59.
        Given.says(x, 0, 3, 1, 1, 0);
        Checks.row(x, 1, 2, 3, 4);
        x.letter('x');
        counts("mixed", x, 10, 3, 7, 3, 4, 4, 4, 1);
        TwinTreeVolume all = new TwinTreeVolume();
        all.read(4, 0);
        for (int i = 0; i < 2; i++) {
            all.stale(2);
        }
        for (int i = 0; i < 3; i++) {
            all.on();
        }
        for (int i = 0; i < 4; i++) {
            all.fit(0);
        }
        for (int i = 0; i < 5; i++) {
            all.fit(65);
        }
        int[] due = {1, 2, 3, 4, 0, 5};
        for (int i = 0; i < 6; i++) {
            Checks.due("refusals " + (-1 - i), all.count(11 + i), due[i]);
        }
        for (int i = 0; i < 32; i++) {
            all.row(0);
        }
        for (int i = 0; i < 96; i++) {
            all.letter(0);
        }
        Checks.due("a full row", all.count(6), 32);
        Checks.due("all letters", all.count(7), 96);
    }

    private static void counts(String what, TwinTreeVolume x, int... due) {
        for (int i = 0; i < due.length; i++) {
            Checks.due(what + ": count " + i, x.count(i), due[i]);
        }
    }

    private static void otherCounts() {
        Quotes.promise(41, "-9 for another what.");
        TwinTreeVolume x = new TwinTreeVolume();
        for (int what : new int[] {Integer.MIN_VALUE, -1, 8, 9, 10, 17, 18, Integer.MAX_VALUE}) {
            Checks.due("count " + what, x.count(what), -9);
        }
        for (int what = 11; what <= 16; what++) {
            Checks.due("that is no refusal", x.count(what), 0);
        }
    }
}
