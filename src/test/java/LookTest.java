/** Promises 14 to 18, 25, 28, 29, 32 and 41: what is told of the blocks and of the files as they are. */
public final class LookTest {
    private LookTest() {
    }

    /** Free: block 1 (2 of them), 5 (5), 12 (4), 30 (7), 63 (1); 45 blocks are taken. */
    private static final String GAPS = "a30024;a20024;a10016;p30102;p30505;p31204;p20607;p11501;";

    public static void main(String[] args) {
        runs();
        fit();
        nearest();
        whose();
        stale();
        gather();
        most();
        larger();
        mean();
        count();
        Checks.end();
    }

    /** Promise 14. */
    private static void runs() {
        TwinTreeVolume x = Checks.made(GAPS, "a31301;");
        // The page ahead took the last block: free are 1 (2), 5 (5), 12 (4), 30 (7).
        int[] byPlace = {102, 505, 1204, 3007};
        int[] bySize = {102, 1204, 505, 3007};
        for (int i = 0; i < 4; i++) {
            Checks.due("by place " + i, x.byPlace(i, 0), byPlace[i]);
            Checks.due("by size " + i, x.byPlace(i, 1), bySize[i]);
        }
        Checks.due("past the last", x.byPlace(4, 0), -1);
        Checks.due("past the last by size", x.byPlace(4, 1), -1);
        Checks.due("below", x.byPlace(-1, 0), -1);
        Checks.due("what 2", x.byPlace(0, 2), -2);
        Checks.due("what ahead of i", x.byPlace(-1, -1), -2);
        TwinTreeVolume y = Checks.made("a00024;a10024;a20016;p02002;p00202;p10101;");
        Checks.due("of one size by start", y.byPlace(1, 1), 202);
        Checks.due("of one size by start", y.byPlace(2, 1), 2002);
        Checks.due("least", y.byPlace(0, 1), 2501);
        mostRuns();
        TwinTreeVolume z = Checks.made("a00024;a10024;a20016;");
        Checks.due("none", z.byPlace(0, 0), -1);
        Checks.due("none", z.byPlace(0, 1), -1);
    }

    /** Every other block is free: no volume has more runs. */
    private static void mostRuns() {
        TwinTreeVolume x = Checks.made("a00024;a10024;a20016;");
        for (int b = 1; b < 64; b += 2) {
            x.punch(b / 24, b % 24, 1);
        }
        Checks.due("runs", x.count(3), 32);
        for (int i = 0; i < 32; i++) {
            Checks.due("by place " + i, x.byPlace(i, 0), 100 * (2 * i + 1) + 1);
            Checks.due("by size " + i, x.byPlace(i, 1), 100 * (2 * i + 1) + 1);
        }
        Checks.due("past the last", x.byPlace(32, 0), -1);
        Checks.due("nearest", x.nearest(63, 1), 63);
        Checks.due("a piece for each page", x.ahead(3, 0, 24), 24);
        Checks.due("extents", x.file(3, 4), 24);
        Checks.due("depth", x.file(3, 5), 2);
        Checks.due("last piece", x.page(3, 23, 0), 47);
        for (int p = 0; p < 8; p++) {
            x.says(2, 16 + p, 9);
        }
        Checks.due("all is promised", x.count(2), 0);
        // A hole stands between no two of them, and block 63 is the last that is free.
        Checks.due("most steps of eight pages", x.flush(2), 24);
        Checks.due("last", x.page(2, 23, 0), 63);
        Checks.due("no runs", x.count(3), 0);
    }

    /** Promise 15. */
    private static void fit() {
        TwinTreeVolume x = Checks.made(GAPS);
        int[] due = {63, 1, 12, 12, 5, 30, 30, -9, -9};
        for (int n = 1; n <= due.length; n++) {
            Checks.due("fit " + n, x.fit(n), due[n - 1]);
        }
        Checks.due("fit 64", x.fit(64), -9);
        Checks.due("fit 0", x.fit(0), -4);
        Checks.due("fit 65", x.fit(65), -6);
        x.punch(1, 13, 1);
        Checks.due("of several the first", x.fit(1), 61);
        Checks.due("all free", new TwinTreeVolume().fit(64), 0);
    }

    /** Promise 16. */
    private static void nearest() {
        TwinTreeVolume x = Checks.made(GAPS);
        Checks.due("nearest to 0", x.nearest(0, 1), 1);
        Checks.due("by start, not by end", x.nearest(9, 1), 12);
        Checks.due("of several the first", x.nearest(3, 1), 1);
        Checks.due("of size 3", x.nearest(3, 3), 5);
        Checks.due("of size 6", x.nearest(3, 6), 30);
        Checks.due("from behind", x.nearest(63, 2), 30);
        Checks.due("itself", x.nearest(63, 1), 63);
        Checks.due("of size 8", x.nearest(3, 8), -9);
        Checks.due("block 64", x.nearest(64, 0), -1);
        Checks.due("block -1", x.nearest(-1, 65), -1);
        Checks.due("size 0", x.nearest(0, 0), -4);
        Checks.due("size 65", x.nearest(0, 65), -6);
    }

    /** Promise 17. */
    private static void whose() {
        TwinTreeVolume x = Checks.made("w32377;f3;w11155;f1;");
        Checks.due("whose 0", x.whose(0, 0), 323);
        Checks.due("byte 0", x.whose(0, 1), 77);
        Checks.due("whose 1", x.whose(1, 0), 111);
        Checks.due("byte 1", x.whose(1, 1), 55);
        Checks.due("nobody's", x.whose(2, 0), -9);
        Checks.due("byte 2", x.whose(2, 1), 0);
        Checks.due("last", x.whose(63, 0), -9);
        Checks.due("block 64", x.whose(64, 2), -1);
        Checks.due("block -1", x.whose(-1, 0), -1);
        Checks.due("what 2", x.whose(0, 2), -2);
        Checks.due("what -1", x.whose(0, -1), -2);
        x.punch(3, 23, 1);
        Checks.due("free", x.whose(0, 0), -9);
        Checks.due("kept", x.whose(0, 1), 77);
    }

    /** Promise 18. */
    private static void stale() {
        TwinTreeVolume x = Checks.made("w00001;w00102;w00200;w00304;f0;");
        Checks.due("none free", x.stale(0), 0);
        Checks.due("none unwritten", x.stale(1), 0);
        x.punch(0, 0, 3);
        Checks.due("two free, a third of 0", x.stale(0), 2);
        x.ahead(1, 0, 1);
        Checks.due("one free", x.stale(0), 1);
        Checks.due("one unwritten", x.stale(1), 1);
        x.says(1, 0, 9);
        Checks.due("waiting is not written", x.stale(1), 1);
        x.flush(1);
        Checks.due("written", x.stale(1), 0);
        Checks.due("what 2", x.stale(2), -2);
        Checks.due("what -1", x.stale(-1), -2);
    }

    /** Promise 25. */
    private static void gather() {
        TwinTreeVolume x = Checks.made(GAPS);
        // 19 free blocks in all.
        Checks.due("one", x.gather(1, 0), 1);
        Checks.due("one", x.gather(1, 1), 0);
        Checks.due("seven", x.gather(7, 0), 30);
        Checks.due("seven", x.gather(7, 1), 0);
        Checks.due("nine: 5 to 13", x.gather(9, 0), 1);
        Checks.due("nine", x.gather(9, 1), 2);
        Checks.due("eleven: 5 to 15", x.gather(11, 0), 5);
        Checks.due("eleven", x.gather(11, 1), 2);
        Checks.due("nineteen", x.gather(19, 0), 0);
        Checks.due("nineteen", x.gather(19, 1), 8);
        Checks.due("twenty", x.gather(20, 0), -9);
        Checks.due("twenty", x.gather(20, 1), -9);
        Checks.due("all free", new TwinTreeVolume().gather(64, 0), 0);
        Checks.due("below", x.gather(0, 2), -4);
        Checks.due("above", x.gather(65, 2), -6);
        Checks.due("what 2", x.gather(64, 2), -2);
        Checks.due("what -1", x.gather(1, -1), -2);
    }

    /** Promise 28. */
    private static void most() {
        TwinTreeVolume x = Checks.made("a00024;a10024;w20001;w20501;a20701;");
        Checks.due("holes", x.most(2), 13);
        Checks.due("holes", x.most(3), 13);
        Checks.due("no holes", x.most(0), 0);
        x.punch(0, 4, 3);
        Checks.due("holes", x.most(0), 3);
        Checks.due("room", x.most(3), 16);
        x.punch(1, 0, 12);
        Checks.due("fewer holes than room", x.most(3), 24);
        Checks.due("waiting and placed are none", x.most(2), 21);
        Checks.due("file 4", x.most(4), -1);
        Checks.due("file -1", x.most(-1), -1);
    }

    /** Promise 29. */
    private static void larger() {
        TwinTreeVolume x = Checks.made("a00002;a10003;a20402;");
        // 7 blocks are taken, 57 free behind them.
        Checks.due("the last file goes behind itself", x.larger(2), -2);
        Checks.due("the first file", x.larger(0), -2);
        Checks.due("no placed page", x.larger(3), 0);
        Checks.due("file 4", x.larger(4), 1000000001);
        Checks.due("file -1", x.larger(-1), 1000000001);
        Checks.due("refusals -1", x.count(11), 2);
        // Free: 2 (2), 24 (4) and 31 (4): file 3's pages 4 to 6 stand between, but there are 16 of it.
        TwinTreeVolume z = Checks.made("a00002;a10002;a20020;a30024;a00316;p10002;p30004;p30704;");
        Checks.due("no run for it", z.larger(3), 0);
        Checks.due("it can not be settled", z.settle(3), -3);
        TwinTreeVolume v = Checks.made("a10004;a20010;a00004;a30024;a21014;a10608;p10004;p20604;p30004;");
        // Free: 0 (4), 10 (4), 18 (4): file 0 at 14 to 17 goes to 0, and 10 to 21 are free.
        Checks.due("free runs", v.count(3), 3);
        Checks.due("greater by eight", v.larger(0), 8);
        Checks.due("it stays", v.page(0, 0, 0), 14);
        Checks.due("settled", v.settle(0), 0);
        Checks.due("greatest", v.count(4), 12);
    }

    /** Promise 32. */
    private static void mean() {
        TwinTreeVolume x = new TwinTreeVolume();
        Checks.due("none", x.mean(0), 0);
        Checks.due("none", x.mean(1), 1);
        Checks.due("what 2", x.mean(2), 4000000000000000002L);
        Checks.due("what -1", x.mean(-1), 4000000000000000002L);
        Checks.due("refusals -2", x.count(12), 2);
        Checks.tell(x, "a00004;a10202;w30001;");
        Checks.due("6 pages by 2", x.mean(0), 3);
        Checks.due("6 pages by 2", x.mean(1), 1);
        Checks.tell(x, "a21001;a20601;");
        Checks.due("8 pages by 4", x.mean(0), 2);
        Checks.tell(x, "a21801;a30301;");
        Checks.due("10 pages by 6", x.mean(0), 5);
        Checks.due("10 pages by 6", x.mean(1), 3);
    }

    /** Promise 41. */
    private static void count() {
        TwinTreeVolume x = Checks.made(GAPS, "w00001;w00102;w20601;w20002;");
        Checks.due("free", x.count(0), 19);
        Checks.due("reserved", x.count(1), 3);
        Checks.due("room", x.count(2), 16);
        Checks.due("free runs", x.count(3), 5);
        Checks.due("greatest", x.count(4), 7);
        // File 3 has 4 extents, file 2 has 2, file 1 has 1.
        Checks.due("extents", x.count(5), 7);
        Checks.due("row", x.count(6), 0);
        x.row(1);
        x.row(2);
        x.letter(65);
        Checks.due("row", x.count(6), 2);
        Checks.due("letters", x.count(7), 1);
        for (int what : new int[] {8, 9, 10, 17, -1, Integer.MAX_VALUE, Integer.MIN_VALUE}) {
            Checks.due("count " + what, x.count(what), -9);
        }
        TwinTreeVolume y = Checks.made("a00024;a10024;a20016;");
        Checks.due("greatest of none", y.count(4), 0);
        Checks.due("no runs", y.count(3), 0);
        Checks.due("no room", y.count(2), 0);
        y.read(9, 9);
        y.stale(5);
        y.stale(6);
        y.on();
        y.fit(0);
        y.fit(65);
        y.fit(66);
        int[] due = {1, 2, 1, 1, 0, 2};
        for (int i = 0; i < 6; i++) {
            Checks.due("refusals " + (-1 - i), y.count(11 + i), due[i]);
        }
    }
}
