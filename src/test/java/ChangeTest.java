/** Promises 4 to 13: pages and files, and the calls that change them. */
public final class ChangeTest {
    private ChangeTest() {
    }

    public static void main(String[] args) {
        pageAndRead();
        fileNumbers();
        says();
        ahead();
        punch();
        flush();
        settle();
        crash();
        kinds();
        kindsPlace();
        goals();
        pieces();
        Checks.end();
    }

    /** Free: block 1 (2 of them), 5 (5), 12 (4), 30 (7), 63 (1); file 0 has nothing yet. */
    private static final String[] GAPS = {
        "a30024;a20024;a10016;p30102;p30505;p31204;p20607;p11501;",
    };

    private static void nobody(String call, int answer) {
        Checks.due(call, answer, -1);
    }

    /** Promises 4 and 6. */
    private static void pageAndRead() {
        TwinTreeVolume x = Checks.made("w00305;f0;w00307;w00408;a00501;");
        Checks.due("block", x.page(0, 3, 0), 0);
        Checks.due("written", x.page(0, 3, 1), 1);
        Checks.due("waits", x.page(0, 3, 2), 7);
        Checks.due("no block", x.page(0, 4, 0), -9);
        Checks.due("not written", x.page(0, 4, 1), 0);
        Checks.due("waits", x.page(0, 4, 2), 8);
        Checks.due("ahead has a block", x.page(0, 5, 0), 1);
        Checks.due("ahead is not written", x.page(0, 5, 1), 0);
        Checks.due("ahead does not wait", x.page(0, 5, 2), -9);
        Checks.due("what 3", x.page(0, 3, 3), -2);
        Checks.due("what -1", x.page(0, 3, -1), -2);
        nobody("file 4", x.page(4, 3, 0));
        nobody("file -1, what 9", x.page(-1, 3, 9));
        nobody("page 24", x.page(0, 24, 0));
        nobody("page -1", x.page(0, -1, 0));
        Checks.due("refusals -1", x.count(11), 4);
        Checks.due("refusals -2", x.count(12), 2);
        Checks.due("read waiting", x.read(0, 3), 7);
        Checks.due("read waiting, not placed", x.read(0, 4), 8);
        Checks.due("read not written", x.read(0, 5), 0);
        Checks.due("read hole", x.read(0, 6), 0);
        x.crash(1, 0);
        Checks.due("read byte", x.read(0, 3), 5);
        nobody("read file 4", x.read(4, 0));
        nobody("read page 24", x.read(0, 24));
        nobody("read page -1", x.read(3, -1));
        // A stale byte of a block that is not written is not read.
        x.punch(0, 3, 1);
        x.ahead(1, 0, 1);
        Checks.due("stale block", x.page(1, 0, 0), 0);
        Checks.due("stale byte", x.whose(0, 1), 5);
        Checks.due("stale read", x.read(1, 0), 0);
    }

    /** Promise 5. */
    private static void fileNumbers() {
        TwinTreeVolume x = Checks.made("k2h;w20011;w20112;f2;w20013;w20514;a20802;w21015;");
        Checks.due("kind", x.file(2, 0), 4);
        Checks.due("placed", x.file(2, 1), 4);
        Checks.due("waiting", x.file(2, 2), 3);
        Checks.due("of these not placed", x.file(2, 3), 2);
        Checks.due("extents", x.file(2, 4), 2);
        Checks.due("depth", x.file(2, 5), 0);
        Checks.due("written", x.file(2, 6), 2);
        Checks.due("what 7", x.file(2, 7), -2);
        Checks.due("what -1", x.file(2, -1), -2);
        nobody("file 4", x.file(4, 7));
        nobody("file -1", x.file(-1, 0));
        // Written and not written pages in turn are as many extents as there are turns.
        TwinTreeVolume y = Checks.made("a00024;");
        int[] extents = {3, 5, 7, 9, 11, 13, 15, 17, 19, 21, 23};
        for (int i = 0; i < extents.length; i++) {
            y.says(0, 2 * i + 1, 0);
            y.flush(0);
            Checks.due("extents in turns", y.file(0, 4), extents[i]);
            Checks.due("depth of " + extents[i], y.file(0, 5), extents[i] <= 4 ? 0 : extents[i] <= 16 ? 1 : 2);
        }
        TwinTreeVolume z = Checks.made("a00001;a00201;a00401;a00601;");
        Checks.due("4 extents", z.file(0, 4), 4);
        Checks.due("depth of 4", z.file(0, 5), 0);
        z.ahead(0, 8, 1);
        Checks.due("depth of 5", z.file(0, 5), 1);
        TwinTreeVolume w = Checks.made("a00024;w00100;w00300;w00500;w00700;w00900;w01100;w01300;f0;w02300;f0;");
        Checks.due("16 extents", w.file(0, 4), 16);
        Checks.due("depth of 16", w.file(0, 5), 1);
    }

    /** Promise 7. */
    private static void says() {
        TwinTreeVolume x = new TwinTreeVolume();
        Checks.due("says", x.says(1, 2, 30), 0);
        Checks.due("says again", x.says(1, 2, 0), 30);
        Checks.due("says 99", x.says(1, 2, 99), 0);
        nobody("file 4", x.says(4, 0, -1));
        nobody("page 24", x.says(0, 24, 100));
        Checks.due("below", x.says(0, 0, -1), -4);
        Checks.due("above", x.says(0, 0, 100), -6);
        Checks.due("still", x.page(1, 2, 2), 99);
        Checks.due("reserved", x.count(1), 1);
        x.flush(1);
        Checks.due("ahead of it the byte is read", x.says(1, 2, 5), 99);
        Checks.due("a placed one reserves nothing", x.count(1), 0);
        x.ahead(0, 0, 24);
        x.ahead(2, 0, 24);
        x.ahead(3, 0, 14);
        Checks.due("room 1", x.count(2), 1);
        Checks.due("the last room", x.says(3, 20, 1), 0);
        Checks.due("no room", x.says(3, 21, 1), -6);
        Checks.due("no room, below", x.says(3, 21, -1), -4);
        Checks.due("one that waits needs none", x.says(3, 20, 2), 1);
        Checks.due("one that is placed needs none", x.says(0, 3, 2), 0);
        Checks.due("refusals -6", x.count(16), 2);
    }

    /** Promise 8. */
    private static void ahead() {
        TwinTreeVolume x = Checks.made("w00305;w00506;f0;w00801;");
        // Pages 3 and 5 are at 0 and 1; the holes 2, 4, 6..7, 9..11 are put one series behind the other.
        Checks.due("ahead", x.ahead(0, 2, 10), 7);
        int[] places = {2, 0, 3, 1, 4, 5, -9, 6, 7, 8};
        for (int i = 0; i < places.length; i++) {
            Checks.due("place of " + (2 + i), x.page(0, 2 + i, 0), places[i]);
        }
        Checks.due("no holes", x.ahead(0, 2, 10), 0);
        Checks.due("below", x.ahead(0, 2, 0), -4);
        Checks.due("past the last", x.ahead(0, 23, 2), -6);
        Checks.due("far past the last", x.ahead(0, 2, Integer.MAX_VALUE), -6);
        nobody("file -1", x.ahead(-1, 0, 0));
        nobody("page 24", x.ahead(0, 24, 0));
        Checks.due("to the last", x.ahead(0, 23, 1), 1);
        Checks.due("room", x.count(2), 53);
        x.ahead(1, 0, 24);
        x.ahead(2, 0, 24);
        Checks.due("room", x.count(2), 5);
        Checks.due("no room", x.ahead(3, 0, 6), -6);
        Checks.due("nothing came", x.file(3, 1), 0);
        Checks.due("all room", x.ahead(3, 0, 5), 5);
        Checks.due("room", x.count(2), 0);
        Checks.due("free, but promised", x.count(0), 1);
    }

    /** Promise 9. */
    private static void punch() {
        TwinTreeVolume x = Checks.made("w00009;w00108;w00207;f0;w00103;w00304;");
        Checks.due("below", x.punch(0, 1, 0), -4);
        Checks.due("past the last", x.punch(0, 23, 2), -6);
        Checks.due("far past the last", x.punch(0, 23, Integer.MAX_VALUE), -6);
        nobody("file 4", x.punch(4, 0, 0));
        nobody("page -1", x.punch(0, -1, 0));
        Checks.due("punch", x.punch(0, 1, 3), 2);
        for (int p = 1; p <= 3; p++) {
            Checks.due("block", x.page(0, p, 0), -9);
            Checks.due("written", x.page(0, p, 1), 0);
            Checks.due("waits", x.page(0, p, 2), -9);
            Checks.due("read", x.read(0, p), 0);
        }
        Checks.due("the byte is kept", x.whose(1, 1), 8);
        Checks.due("nobody's", x.whose(1, 0), -9);
        Checks.due("reserved", x.count(1), 0);
        Checks.due("holes", x.punch(0, 1, 23), 0);
        Checks.due("first", x.punch(0, 0, 1), 1);
        Checks.due("all free", x.count(4), 64);
    }

    /** Promise 10. */
    private static void flush() {
        TwinTreeVolume x = Checks.made("w00001;w00102;w00203;w00504;");
        nobody("file 4", x.flush(4));
        Checks.due("two pieces, four pages", x.flush(0), 10);
        Checks.due("nothing waits", x.flush(0), 0);
        Checks.due("block of 2", x.page(0, 2, 0), 2);
        Checks.due("block of 5", x.page(0, 5, 0), 3);
        Checks.due("written", x.page(0, 5, 1), 1);
        Checks.due("waits", x.page(0, 5, 2), -9);
        Checks.due("byte", x.whose(3, 1), 4);
        x.says(0, 1, 99);
        x.ahead(0, 6, 1);
        x.says(0, 6, 7);
        Checks.due("no piece, two pages", x.flush(0), 4);
        Checks.due("byte", x.whose(1, 1), 99);
        Checks.due("read", x.read(0, 6), 7);
        Checks.due("written now", x.page(0, 6, 1), 1);
    }

    /** Promise 11. */
    private static void settle() {
        TwinTreeVolume x = Checks.made(GAPS);
        nobody("file -1", x.settle(-1));
        Checks.due("no placed page", x.settle(0), -3);
        Checks.due("no run for 15", x.settle(1), -3);
        Checks.due("refusals -3", x.count(13), 2);
        // Free: 1 (2), 5 (5), 12 (4), 30 (7), 63 (1). File 0: pages 2, 9 and 20 of three extents.
        TwinTreeVolume y = Checks.made(GAPS[0], "k0g;w00241;f0;k0p;w00942;f0;a02001;w00299;");
        Checks.due("place of 2", y.page(0, 2, 0), 30);
        Checks.due("place of 9", y.page(0, 9, 0), 63);
        Checks.due("place of 20", y.page(0, 20, 0), 1);
        Checks.due("settled", y.settle(0), 12);
        Checks.due("place of 2", y.page(0, 2, 0), 12);
        Checks.due("place of 9", y.page(0, 9, 0), 13);
        Checks.due("place of 20", y.page(0, 20, 0), 14);
        Checks.due("written", y.page(0, 9, 1), 1);
        Checks.due("not written", y.page(0, 20, 1), 0);
        Checks.due("waits", y.page(0, 2, 2), 99);
        Checks.due("byte came along", y.read(0, 9), 42);
        Checks.due("byte came along", y.whose(12, 1), 41);
        Checks.due("old byte is kept", y.whose(30, 1), 41);
        Checks.due("old block is free", y.whose(30, 0), -9);
        Checks.due("greatest run is whole again", y.count(4), 7);
        // Of runs of one size the first; the old blocks are not free ahead of it.
        TwinTreeVolume z = Checks.made("a00008;p00001;p00201;p00401;p00601;p00101;p00301;");
        Checks.due("free runs", z.count(3), 3);
        Checks.due("settled", z.settle(0), 0);
        Checks.due("two pages", z.page(0, 7, 0), 1);
    }

    /** Promise 12. */
    private static void crash() {
        TwinTreeVolume x = Checks.made("w00001;w00102;w00303;w20004;");
        nobody("file 4", x.crash(4, -1));
        Checks.due("below", x.crash(0, -1), -4);
        Checks.due("above", x.crash(0, 100), -6);
        Checks.due("still", x.count(1), 4);
        x.image();
        Checks.due("no step", x.crash(0, 0), 4);
        Checks.due("nothing placed", x.file(0, 1), 0);
        Checks.due("nothing waits", x.file(2, 2), 0);
        x.on();
        Checks.due("one piece", x.crash(0, 1), 4);
        Checks.due("two placed", x.file(0, 1), 2);
        x.on();
        Checks.due("two pieces and a byte", x.crash(0, 3), 4);
        Checks.due("byte", x.whose(0, 1), 1);
        Checks.due("not written", x.page(0, 0, 1), 0);
        Checks.due("read", x.read(0, 0), 0);
        x.on();
        Checks.due("a page", x.crash(0, 4), 3);
        Checks.due("written", x.page(0, 0, 1), 1);
        Checks.due("read", x.read(0, 0), 1);
        Checks.due("next byte", x.whose(1, 1), 0);
        x.on();
        Checks.due("all", x.crash(0, 99), 1);
        Checks.due("written", x.file(0, 6), 3);
        x.on();
        Checks.due("all but one", x.crash(0, 7), 2);
        Checks.due("written", x.file(0, 6), 2);
        Checks.due("nothing waits", x.crash(1, 5), 0);
    }

    /** Promise 13. */
    private static void kinds() {
        TwinTreeVolume x = new TwinTreeVolume();
        Checks.due("kind", x.kind(3, 5), 0);
        Checks.due("kind", x.kind(3, 5), 5);
        Checks.due("kind", x.kind(3, 0), 5);
        Checks.due("kind 6", x.kind(3, 6), -2);
        Checks.due("kind -1", x.kind(3, -1), -2);
        nobody("file 4", x.kind(4, 6));
        nobody("file -1", x.kind(-1, 0));
        Checks.due("kind", x.file(3, 0), 0);
    }

    /** Where n pages of file 0 from page 0 on begin behind GAPS, by kind. */
    private static void begins(int n, int... due) {
        for (int kind = 0; kind < 6; kind++) {
            TwinTreeVolume x = Checks.made(GAPS);
            x.kind(0, kind);
            Checks.due("ahead " + n, x.ahead(0, 0, n), n);
            for (int i = 0; i < n; i++) {
                Checks.due("kind " + kind + ", page " + i + " of " + n, x.page(0, i, 0), due[kind] + i);
            }
        }
    }

    /** Promises 8 and 13: where each kind begins. */
    private static void kindsPlace() {
        begins(1, 63, 63, 63, 30, 63, 63);
        begins(2, 1, 1, 1, 30, 1, 1);
        begins(3, 12, 12, 12, 30, 13, 12);
        begins(4, 12, 12, 12, 30, 12, 12);
        begins(5, 5, 5, 32, 30, 5, 5);
        begins(6, 30, 30, 30, 30, 31, 30);
        begins(7, 30, 30, 30, 30, 30, 30);
        TwinTreeVolume x = Checks.made("k0s;a10003;");
        x.ahead(0, 0, 3);
        Checks.due("three pages are not striped", x.page(0, 0, 0), 3);
        x.ahead(0, 10, 4);
        Checks.due("four pages are", x.page(0, 10, 0), 8);
        // Of runs of one greatest, or one least, size the first.
        TwinTreeVolume y = Checks.made("a00024;a10024;a20016;p00203;p10003;");
        y.kind(3, 3);
        y.ahead(3, 0, 1);
        Checks.due("first of the greatest", y.page(3, 0, 0), 2);
        y.kind(3, 0);
        y.punch(3, 0, 1);
        y.ahead(3, 5, 2);
        Checks.due("first of the least", y.page(3, 5, 0), 2);
    }

    /** Promises 8 and 13: where each kind begins behind a page. */
    private static void goals() {
        int[] goalFree = {63, 31, 31, 31, 63, 31};
        int[] goalTaken = {12, 12, 12, 30, 13, 5};
        for (int kind = 0; kind < 6; kind++) {
            // Page 0 stands at the first of seven free blocks.
            TwinTreeVolume x = Checks.made(GAPS[0], "k0g;a00001;");
            x.kind(0, kind);
            x.ahead(0, 1, 1);
            Checks.due("goal is free, kind " + kind, x.page(0, 1, 0), goalFree[kind]);
            // Pages 0 and 1 fill the run of two, and behind them no block is free.
            TwinTreeVolume y = Checks.made(GAPS[0], "a00002;");
            y.kind(0, kind);
            y.ahead(0, 2, 3);
            Checks.due("goal is taken, kind " + kind, y.page(0, 2, 0), goalTaken[kind]);
            // Behind the last block there is no goal.
            TwinTreeVolume z = Checks.made(GAPS[0], "a00001;");
            Checks.due("at the last block", z.page(0, 0, 0), 63);
            z.kind(0, kind);
            z.ahead(0, 1, 2);
            Checks.due("no goal, kind " + kind, z.page(0, 1, 0), kind == 3 ? 30 : 1);
        }
        // As far ahead as behind: the first. Goal 9 (of page 0 at 8), free runs of two at 6 and 12.
        TwinTreeVolume x = Checks.made("a10006;a20002;a00001;a10603;a21002;a11014;a30024;a21311;a20301;p20002;p21002;");
        Checks.due("page 0", x.page(0, 0, 0), 8);
        Checks.due("first run", x.byPlace(0, 0), 602);
        Checks.due("second run", x.byPlace(1, 0), 1202);
        x.kind(0, 5);
        x.ahead(0, 1, 2);
        Checks.due("close by the first of two", x.page(0, 1, 0), 6);
        // A striped one of three pages takes its goal; one of four takes the stripe.
        TwinTreeVolume y = Checks.made("a00002;k0s;");
        y.ahead(0, 2, 3);
        Checks.due("goal of three", y.page(0, 2, 0), 2);
        y.ahead(0, 5, 4);
        Checks.due("stripe of four", y.page(0, 5, 0), 8);
    }

    /** Promises 8 and 10: pieces of a series. */
    private static void pieces() {
        // Free: 1 (2), 5 (5), 12 (4), 30 (7), 63 (1): no run of 15.
        TwinTreeVolume x = Checks.made(GAPS);
        for (int p = 0; p < 15; p++) {
            x.says(0, p, p + 1);
        }
        Checks.due("steps", x.flush(0), 33);
        int[] first = {30, 31, 32, 33, 34, 35, 36, 5, 6, 7, 8, 9, 12, 13, 14};
        for (int p = 0; p < 15; p++) {
            Checks.due("piece of page " + p, x.page(0, p, 0), first[p]);
        }
        // The goal of a later piece is behind the piece ahead of it: behind 36 there is none free, 12 is plain.
        TwinTreeVolume y = Checks.made(GAPS[0], "k0c;");
        Checks.due("ahead", y.ahead(0, 0, 9), 9);
        Checks.due("first piece", y.page(0, 6, 0), 36);
        Checks.due("second piece", y.page(0, 7, 0), 12);
        TwinTreeVolume z = Checks.made(GAPS[0], "k0h;");
        z.ahead(0, 0, 10);
        Checks.due("high first piece is the whole run", z.page(0, 0, 0), 30);
        Checks.due("high second piece", z.page(0, 7, 0), 13);
    }
}
