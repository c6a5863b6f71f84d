/** Promises 34 to 37, 39 and 40: the row and what it is judged by, the image. */
public final class KeepTest {
    private KeepTest() {
    }

    public static void main(String[] args) {
        row();
        judge();
        forged();
        image();
        Checks.end();
    }

    /** Promises 34 and 37. */
    private static void row() {
        TwinTreeVolume x = new TwinTreeVolume();
        Checks.due("clear of none", x.clear(), 0);
        for (int i = 1; i <= 32; i++) {
            Checks.due("row", x.row(i % 2 == 0 ? 0 : 99), i);
        }
        Checks.due("a 33rd", x.row(5), -6);
        Checks.due("a 33rd below", x.row(-1), -4);
        Checks.due("clear", x.clear(), 32);
        Checks.due("clear again", x.clear(), 0);
        Checks.due("above", x.row(100), -6);
        Checks.due("below", x.row(-1), -4);
        Checks.due("none", x.count(6), 0);
        Checks.due("row", x.row(7), 1);
    }

    private static void judged(TwinTreeVolume x, int due, int... places) {
        Checks.row(x, places);
        Checks.due("judge", x.judge(0), due);
        Checks.due("the row has none then", x.count(6), 0);
    }

    /** Promise 35. */
    private static void judge() {
        TwinTreeVolume x = Checks.made("w00001;w00202;f0;w00303;a00401;");
        judged(x, -9);
        judged(x, -9, 0, 99, 1, 99, 2);
        judged(x, -9, 0, 99);
        judged(x, 0, 99, 99);
        judged(x, 1, 0, 1, 1);
        judged(x, 2, 0, 99, 99);
        judged(x, 3, 0, 99, 1, 2, 3);
        judged(x, 4, 0, 99, 1, 99, 3);
        judged(x, 0, 64);
        int[] long27 = new int[27];
        java.util.Arrays.fill(long27, 99);
        long27[0] = 0;
        long27[2] = 1;
        long27[4] = 2;
        judged(x, -9, long27);
        long27[24] = 0;
        judged(x, 24, long27);
        long27[24] = 99;
        long27[26] = 3;
        judged(x, 26, long27);
        x.row(5);
        Checks.due("file 4", x.judge(4), -1);
        Checks.due("file -1", x.judge(-1), -1);
        Checks.due("the row stays", x.count(6), 1);
        Checks.due("file 1", x.judge(1), 0);
        // The page of another file at a block past the last page is not looked at.
        TwinTreeVolume y = Checks.made("a00024;a10001;");
        for (int p = 0; p < 24; p++) {
            y.row(p);
        }
        y.row(24);
        Checks.due("past the last page", y.judge(0), 24);
    }

    private static void told(TwinTreeVolume x, int due, int... pairs) {
        Checks.row(x, pairs);
        Checks.due("forged", x.forged(), due);
        Checks.due("the row has none then", x.count(6), 0);
    }

    /** Promise 36. */
    private static void forged() {
        TwinTreeVolume x = Checks.made("a00010;p00202;p00601;");
        // Free: 2 (2), 6 (1), 10 (54).
        told(x, -9, 2, 2, 6, 1, 10, 54);
        told(x, 0);
        told(x, 1, 2, 2);
        told(x, 2, 2, 2, 6, 1);
        told(x, 3, 2, 2, 6, 1, 10, 54, 63, 1);
        told(x, 0, 3, 2, 6, 1, 10, 54);
        told(x, 0, 2, 1, 6, 1, 10, 54);
        told(x, 1, 2, 2, 10, 54, 6, 1);
        told(x, 2, 2, 2, 6, 1, 10, 53, 63, 1);
        Checks.row(x, 2, 2, 6);
        Checks.due("unwhole", x.forged(), -3);
        Checks.due("the row stays", x.count(6), 3);
        Checks.due("refusals -3", x.count(13), 1);
        x.clear();
        TwinTreeVolume y = Checks.made("a00024;a10024;a20016;");
        told(y, -9);
        told(y, 0, 0, 0);
    }

    /** Promises 39 and 40. */
    private static void image() {
        TwinTreeVolume x = Checks.made("k1g;w00001;w00102;f0;w00011;w10007;a20201;");
        Checks.due("no image", x.on(), -3);
        Checks.due("image", x.image(), 61);
        Checks.tell(x, "k1h;c003;p00101;w20208;f2;a30005;");
        x.row(4);
        x.letter(102);
        x.read(4, 4);
        Checks.due("free", x.count(0), 57);
        Checks.due("on", x.on(), 61);
        Checks.due("kind", x.file(1, 0), 3);
        Checks.due("waits", x.page(0, 0, 2), 11);
        Checks.due("byte", x.whose(0, 1), 1);
        Checks.due("place", x.page(0, 1, 0), 1);
        Checks.due("written", x.page(0, 1, 1), 1);
        Checks.due("not written", x.page(2, 2, 1), 0);
        Checks.due("byte of it", x.whose(2, 1), 0);
        Checks.due("waits", x.read(1, 0), 7);
        Checks.due("no pages", x.file(3, 1), 0);
        Checks.due("block", x.whose(3, 0), -9);
        Checks.due("the row is not in it", x.count(6), 1);
        Checks.due("letters are not in it", x.count(7), 1);
        Checks.due("refusals -1 are not in it", x.count(11), 1);
        Checks.due("refusals -3 are not in it", x.count(13), 1);
        x.flush(0);
        x.flush(1);
        Checks.due("on once more", x.on(), 61);
        Checks.due("waits", x.count(1), 1);
        x.punch(0, 0, 24);
        Checks.due("a newer image", x.image(), 63);
        x.ahead(3, 0, 1);
        Checks.due("on from the newer", x.on(), 63);
        Checks.due("the row stays", x.clear(), 1);
    }
}
