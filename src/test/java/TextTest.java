/** Promises 1 to 3: a new object, letters, and the volume that they tell. */
public final class TextTest {
    private TextTest() {
    }

    public static void main(String[] args) {
        newObject();
        letters();
        faultsOfForm();
        faultsOfStatements();
        statementsCome();
        textComesToWhatIsThere();
        Checks.end();
    }

    /** Promise 1. */
    private static void newObject() {
        TwinTreeVolume x = new TwinTreeVolume();
        for (int b = 0; b < 64; b++) {
            Checks.due("new whose " + b, x.whose(b, 0), -9);
            Checks.due("new byte " + b, x.whose(b, 1), 0);
        }
        Checks.due("new free run", x.byPlace(0, 0), 64);
        Checks.due("new free", x.count(0), 64);
        for (int what = 11; what <= 16; what++) {
            Checks.due("new refusals", x.count(what), 0);
        }
        TwinTreeVolume y = new TwinTreeVolume();
        for (int f = 0; f < 4; f++) {
            Checks.due("new kind " + f, y.file(f, 0), 0);
            for (int p = 0; p < 24; p++) {
                Checks.due("new block", y.page(f, p, 0), -9);
                Checks.due("new written", y.page(f, p, 1), 0);
                Checks.due("new waits", y.page(f, p, 2), -9);
                Checks.due("new read", y.read(f, p), 0);
            }
        }
    }

    /** Promise 2. */
    private static void letters() {
        TwinTreeVolume x = new TwinTreeVolume();
        Checks.due("letter 0", x.letter(0), 1);
        Checks.due("letter 255", x.letter(255), 2);
        Checks.due("letter -1", x.letter(-1), -4);
        Checks.due("letter 256", x.letter(256), -6);
        Checks.due("letter least", x.letter(Integer.MIN_VALUE), -4);
        for (int i = 3; i <= 96; i++) {
            Checks.due("letter", x.letter('f'), i);
        }
        Checks.due("letter 97th", x.letter('f'), -6);
        Checks.due("letter 97th below", x.letter(-5), -4);
        Checks.due("letters", x.count(7), 96);
        Checks.due("refusals -4", x.count(14), 3);
        Checks.due("refusals -6", x.count(16), 2);
        Checks.due("fault", x.volume(), -1000);
        Checks.due("letters are no more", x.count(7), 0);
        Checks.due("letter again", x.letter('f'), 1);
    }

    private static void fault(String text, int due) {
        TwinTreeVolume x = new TwinTreeVolume();
        Checks.due("fault of " + text, Checks.tell(x, text), due);
        Checks.due("letters behind " + text, x.count(7), 0);
        Checks.due("nothing comes of " + text, x.count(2) + x.file(0, 0) + x.file(1, 0), 64);
        for (int what = 11; what <= 16; what++) {
            Checks.due("nothing is counted of " + text, x.count(what), 0);
        }
    }

    /** Promise 3: faults of kind 1. */
    private static void faultsOfForm() {
        fault("", -1000);
        fault(";", -1000);
        fault("x0;", -1000);
        fault("W00000;", -1000);
        fault("wx0000;", -1001);
        fault("w0;", -1002);
        fault("w00000", -1006);
        fault("w000000;", -1006);
        fault("w00000;;", -1007);
        fault("w00000;w0", -1009);
        fault("w0000:;", -1005);
        fault("w0000/;", -1005);
        fault("f", -1001);
        fault("f0", -1002);
        fault("f00;", -1002);
        fault("c00;", -1003);
        fault("c000;k0", -1007);
        fault("k0;", -1002);
        fault("k0w;", -1002);
        fault("k0pp;", -1003);
        fault("kp0;", -1001);
        fault("w90000;w00000", -1013);
        fault("a09999;q", -1007);
        fault("s0;a00101 ", -1009);
        fault("w00001;k1n;f0;\u00ff", -1014);
    }

    /** Promise 3: faults of kind 2. */
    private static void faultsOfStatements() {
        fault("w40000;", -2000);
        fault("f9;", -2000);
        fault("s4;", -2000);
        fault("k4p;", -2000);
        fault("c400;", -2000);
        fault("w02400;", -2000);
        fault("w09900;", -2000);
        fault("k0n;k1s;w02400;", -2008);
        fault("a00000;", -2000);
        fault("a02401;", -2000);
        fault("a00025;", -2000);
        fault("a02302;", -2000);
        fault("p00000;", -2000);
        fault("p02301;p02302;", -2007);
        fault("p02401;", -2000);
        fault("p42301;", -2000);
        fault("s0;", -2000);
        fault("w00001;s0;", -2007);
        fault("w00001;f0;s0;s1;", -2013);
        fault("a00024;a10024;a20017;", -2014);
        fault("a00024;a10024;a20016;w30000;", -2021);
        fault("a00024;a10024;a20016;s0;", -2021);
        fault("a00024;a10024;w20001;w20101;a20215;", -2028);
    }

    /** Promise 3: what comes without a fault. */
    private static void statementsCome() {
        TwinTreeVolume x = new TwinTreeVolume();
        Checks.due("all kinds of statements",
                Checks.tell(x, "k0n;k1s;k2g;k3h;w00007;w00108;f0;a10203;p00101;w32399;c300;k3c;k0p;s0;"), 14);
        Checks.due("kind 0", x.file(0, 0), 0);
        Checks.due("kind 1", x.file(1, 0), 2);
        Checks.due("kind 2", x.file(2, 0), 3);
        Checks.due("kind 3", x.file(3, 0), 5);
        Checks.due("crashed page", x.read(3, 23), 0);
        // Page 1 was at block 1; the three pages ahead at 2, 3, 4; page 0 settles at the run of block 1.
        Checks.due("settled page", x.page(0, 0, 0), 1);
        Checks.due("its byte", x.read(0, 0), 7);
        Checks.due("punched page", x.page(0, 1, 0), -9);
        Checks.due("page ahead", x.page(1, 2, 0), 2);
        Checks.due("not written", x.page(1, 2, 1), 0);

        TwinTreeVolume low = new TwinTreeVolume();
        Checks.due("settled at block 0", Checks.tell(low, "a00001;a10001;p00001;s1;"), 4);
        Checks.due("block 0", low.whose(0, 0), 100);

        TwinTreeVolume full = new TwinTreeVolume();
        StringBuilder text = new StringBuilder();
        for (int i = 0; i < 32; i++) {
            text.append("f").append(i % 4).append(";");
        }
        Checks.due("96 letters", Checks.tell(full, text.toString()), 32);
        Checks.due("a full text of values", Checks.tell(full, "w02399;w30000;"), 2);
        Checks.due("greatest page and value", full.read(0, 23), 99);
        Checks.due("exactly all room", Checks.tell(full, "a00023;a10024;a30115;"), 3);
        Checks.due("room", full.count(2), 0);
        Checks.due("a waiting one needs no room", Checks.tell(full, "w02398;w00001;p00101;w00102;"), 4);
        Checks.due("no holes need no room", Checks.tell(full, "a00024;"), 1);
        Checks.due("read", full.read(0, 23), 98);
    }

    /** Promise 3: a volume that is told comes to what is there. */
    private static void textComesToWhatIsThere() {
        TwinTreeVolume x = Checks.made("w00005;w00106;");
        Checks.due("steps", x.steps(0), 5);
        Checks.due("a flush told", Checks.tell(x, "f0;"), 1);
        Checks.due("placed", x.file(0, 6), 2);
        Checks.due("a fault behind", Checks.tell(x, "p00024;s1;"), -2007);
        Checks.due("still placed", x.file(0, 6), 2);
        Checks.due("read", x.read(0, 1), 6);
        Checks.due("image", x.image(), 62);
        Checks.due("a crash behind one step", Checks.tell(x, "w00050;w00151;c001;"), 3);
        Checks.due("byte came", x.read(0, 0), 50);
        Checks.due("byte did not", x.read(0, 1), 6);
        Checks.due("on", x.on(), 62);
        Checks.due("as then", x.read(0, 0), 5);
    }
}
