import java.lang.reflect.Constructor;
import java.lang.reflect.Method;
import java.lang.reflect.Modifier;
import java.nio.file.Files;
import java.nio.file.Path;
import java.util.Arrays;

/** What stands ahead of the "Terms" and behind the promises: "What it is", "The public face", "Not promised". */
final class EdgesOfWhole {
    private static final Path SOURCE = Path.of("src/main/java/TwinTreeVolume.java");
    private static final int LAST_CALL = 512;

    private static final String[] HEADS = {
        "int letter(int c)", "int volume()", "int page(int file, int page, int what)", "int file(int file, int what)",
        "int read(int file, int page)", "int says(int file, int page, int v)", "int ahead(int file, int page, int n)",
        "int punch(int file, int page, int n)", "int flush(int file)", "int settle(int file)",
        "int crash(int file, int k)", "int kind(int file, int kind)", "int byPlace(int i, int what)", "int fit(int n)",
        "int nearest(int block, int n)", "int whose(int block, int what)", "int stale(int what)",
        "int scatter(int file)", "int kindBest(int file, int what)", "int order(int what)", "int steps(int file)",
        "int loses(int file, int k, int what)", "int safe(int file)", "int gather(int n, int what)",
        "int first(int a, int b)", "int two(int a, int b)", "int most(int file)", "int larger(int file)",
        "long lost(int file, int part)", "long sure(int file, int page, int part)", "long mean(int part)",
        "int which(int file)", "int row(int v)", "int judge(int file)", "int forged()", "int clear()",
        "int lots(int n, int z, int what)", "int image()", "int on()", "int count(int what)",
    };

    private EdgesOfWhole() {
    }

    static void run() {
        orders();
        waiting();
        placing();
        changes();
        looks();
        lastCall();
        face();
        notPromised();
    }

    private static void orders() {
        Quotes.whatItIs("A volume of blocks with two orders of its free runs, by place and by size:");
        TwinTreeVolume x = Given.free(0, 3, 10, 1);
        Checks.due("by place", x.byPlace(0, 0), 3);
        Checks.due("by size", x.byPlace(0, 1), 1001);
    }

    private static void waiting() {
        Quotes.whatItIs("pages of files that are written wait with room promised, and are placed together by the file's"
                + " kind when it is flushed;");
        TwinTreeVolume x = new TwinTreeVolume();
        x.kind(2, 4);
        x.says(2, 7, 17);
        x.says(1, 0, 10);
        x.says(2, 5, 15);
        x.says(2, 6, 16);
        Checks.due("no block is taken", x.count(0), 64);
        Checks.due("room is promised", x.count(2), 60);
        x.flush(2);
        Given.places("together, and high", x, 2, 5, 61, 62, 63);
        Given.page("another file's waits", x, 1, 0, -9, 0, 10);
    }

    private static void placing() {
        Quotes.whatItIs("placed unwritten, filled, then written;");
        int[] blocks = {-9, 0, 0, 0};
        int[] bytes = {0, 0, 77, 77};
        int[] written = {0, 0, 0, 1};
        for (int k = 0; k < blocks.length; k++) {
            TwinTreeVolume x = new TwinTreeVolume();
            x.says(3, 9, 77);
            x.crash(3, k);
            Given.page("behind step " + k, x, 3, 9, blocks[k], written[k], -9);
            Checks.due("byte behind step " + k, x.whose(0, 1), bytes[k]);
        }
    }

    private static void changes() {
        Quotes.whatItIs("holes, rooms ahead, settling, crashes behind so many steps;");
        TwinTreeVolume x = new TwinTreeVolume();
        Checks.due("rooms ahead", x.ahead(0, 0, 5), 5);
        Checks.due("holes", x.punch(0, 1, 2), 2);
        Checks.due("settling", x.settle(0), 5);
        Given.places("settled", x, 0, 0, 5, -9, -9, 6, 7);
        x.says(0, 0, 3);
        Checks.due("a crash behind one step", x.crash(0, 1), 1);
        Given.page("filled, not written", x, 0, 0, 5, 0, -9);
        Checks.due("filled", x.whose(5, 1), 3);
    }

    private static void looks() {
        TwinTreeVolume x = Given.rivals();
        Quotes.whatItIs("what is read, whose a block is, extents,");
        Checks.due("what is read", x.read(1, 19), 4);
        Checks.due("whose a block is", x.whose(63, 0), 115);
        Checks.due("extents", x.file(1, 4), 1);
        Quotes.whatItIs("which kind, which order scatters least,");
        Checks.due("which kind", x.kindBest(0, 0), 0);
        Checks.due("which order", x.order(0), 2134);
        Quotes.whatItIs("what must be moved for room,");
        Checks.due("from which block on", x.gather(5, 0), 0);
        Checks.due("how many blocks", x.gather(5, 1), 1);
        Quotes.whatItIs("what a crash loses, when it loses nothing,");
        Checks.due("what it loses", x.loses(0, 3, 0), 2);
        Checks.due("when it loses nothing", x.safe(0), 7);
        Quotes.whatItIs("stale bytes, by odds,");
        Checks.due("stale bytes", x.stale(0), 0);
        Checks.due("by odds: 3, 3, 3, 2, 2, 1, 1, 0", x.lost(0, 0), 15);
        Checks.due("by eight", x.lost(0, 1), 8);
        Quotes.whatItIs("which kind it was by where pages came, told maps and told free runs looked at,");
        Checks.row(x, 0, 1, 2);
        Checks.due("which kind: great", x.which(0), 1 << 3);
        Checks.due("a told map", x.judge(0), 0);
        Checks.row(x, 0, 4, 10, 3);
        Checks.due("told free runs", x.forged(), -9);
        Quotes.whatItIs("volumes by lot, an image.");
        int extents = x.lots(1, 5, 0);
        Checks.due("an image", x.image(), 7);
        Checks.due("volumes by lot", x.lots(1, 5, 0), extents);
        x.flush(0);
        Checks.due("on from it", x.on(), 7);
    }

    private static void lastCall() {
        Quotes.whatItIs("An object is used for at most 512 calls after it has been made; what later calls answer is free.");
        TwinTreeVolume refused = new TwinTreeVolume();
        for (int i = 1; i < LAST_CALL; i++) {
            refused.steps(4);
        }
        Checks.due("all refusals", refused.count(11), LAST_CALL - 1);
        TwinTreeVolume flushed = new TwinTreeVolume();
        for (int i = 1; i < LAST_CALL - 1; i += 2) {
            flushed.says(i % 4, i % 24, i % 100);
            flushed.flush(i % 4);
        }
        flushed.says(3, 23, 55);
        Checks.due("the last flush", flushed.flush(3), 2);
        TwinTreeVolume imaged = new TwinTreeVolume();
        for (int i = 1; i < LAST_CALL - 2; i += 2) {
            imaged.ahead(i % 3, i % 24, 1);
            imaged.image();
        }
        int free = imaged.count(0);
        imaged.punch(0, 0, 24);
        Checks.due("the last image", imaged.on(), free);
        TwinTreeVolume rows = new TwinTreeVolume();
        for (int i = 1; i < LAST_CALL - 1; i += 2) {
            rows.row(i % 100);
            rows.clear();
        }
        rows.row(99);
        Checks.due("the last row", rows.judge(0), -9);
        TwinTreeVolume told = new TwinTreeVolume();
        for (int i = 1; i < LAST_CALL - 3; i += 4) {
            told.letter('f');
            told.letter('0' + i % 4);
            told.letter(';');
            told.volume();
        }
        told.letter('s');
        told.letter('0');
        told.letter(';');
        Checks.due("the last volume", told.volume(), -2000);
        TwinTreeVolume drawn = new TwinTreeVolume();
        for (int i = 1; i < LAST_CALL; i++) {
            drawn.lots(1 + i % 20, i, i % 2);
        }
        Checks.due("the last lots", drawn.lots(2, 5, 0), new TwinTreeVolume().lots(2, 5, 0));
    }

    private static void face() {
        Quotes.face("public final class TwinTreeVolume {");
        int modifiers = TwinTreeVolume.class.getModifiers();
        Checks.holds("public", Modifier.isPublic(modifiers));
        Checks.holds("final", Modifier.isFinal(modifiers));
        Checks.due("without a package", TwinTreeVolume.class.getName().length(), "TwinTreeVolume".length());
        Quotes.face("public TwinTreeVolume();");
        Constructor<?>[] made = TwinTreeVolume.class.getConstructors();
        Checks.due("one constructor", made.length, 1);
        Checks.due("without an argument", made[0].getParameterCount(), 0);
        String source = source();
        int calls = 0;
        for (String head : HEADS) {
            Quotes.face("public " + head + ";");
            Checks.holds("its words stand in the class", source.contains("\n    public " + head + " {\n"));
            Checks.holds("it can be called", hasCall(head));
            calls++;
        }
        Checks.due("no call besides", publicCalls(), calls);
    }

    private static boolean hasCall(String head) {
        String type = head.substring(0, head.indexOf(' '));
        String name = head.substring(head.indexOf(' ') + 1, head.indexOf('('));
        String inside = head.substring(head.indexOf('(') + 1, head.indexOf(')'));
        Class<?>[] arguments = new Class<?>[inside.isEmpty() ? 0 : inside.split(",").length];
        Arrays.fill(arguments, int.class);
        try {
            Method call = TwinTreeVolume.class.getMethod(name, arguments);
            return call.getReturnType().getName().equals(type) && !Modifier.isStatic(call.getModifiers());
        } catch (NoSuchMethodException e) {
            return false;
        }
    }

    private static int publicCalls() {
        int calls = 0;
        for (Method call : TwinTreeVolume.class.getDeclaredMethods()) {
            calls += Modifier.isPublic(call.getModifiers()) ? 1 : 0;
        }
        return calls;
    }

    private static String source() {
        try {
            return Files.readString(SOURCE);
        } catch (java.io.IOException e) {
            throw new IllegalStateException("no class at " + SOURCE, e);
        }
    }

    private static void notPromised() {
        Quotes.notPromised("How the state is held inside the object is free, as are the speed of each call, the text of"
                + " toString and the behaviour of equals and hashCode.");
        Checks.due("no field can be seen", TwinTreeVolume.class.getFields().length, 0);
        Checks.holds("two objects are not one", !new TwinTreeVolume().equals(new TwinTreeVolume()));
        Quotes.notPromised("Use of one object from several threads at once is not promised to be safe.");
        threads();
        Quotes.notPromised("Nothing is promised beyond the answers and state changes described above, and nothing about an"
                + " object after its 512th call.");
        onlyWhatIsDescribed();
    }

    /** Threads with an object each answer as one alone does. */
    private static void threads() {
        long alone = played();
        long[] answers = new long[4];
        Thread[] threads = new Thread[answers.length];
        for (int i = 0; i < threads.length; i++) {
            int at = i;
            threads[i] = new Thread(() -> answers[at] = played());
            threads[i].start();
        }
        for (int i = 0; i < threads.length; i++) {
            try {
                threads[i].join();
            } catch (InterruptedException e) {
                throw new IllegalStateException("a thread was cut off", e);
            }
            Checks.due("one object in each thread", answers[i], alone);
        }
    }

    private static long played() {
        long sum = 0;
        for (int i = 0; i < 50; i++) {
            TwinTreeVolume x = Given.rivals();
            lookOn(x);
            x.flush(0);
            x.settle(0);
            sum = 31 * sum + x.lots(20, i, 0);
            sum = 31 * sum + x.order(1);
            sum = 31 * sum + x.lost(1, 0);
        }
        return sum;
    }

    /** What a call looks at stays as it is: calls between the changes make no difference to what comes then. */
    private static void onlyWhatIsDescribed() {
        TwinTreeVolume x = Given.rivals();
        TwinTreeVolume y = Given.rivals();
        lookOn(x);
        Checks.due("steps", x.flush(0), y.flush(0));
        lookOn(x);
        Checks.due("a hole", x.says(2, 23, 9), y.says(2, 23, 9));
        lookOn(x);
        Checks.due("free", x.punch(3, 0, 5), y.punch(3, 0, 5));
        lookOn(x);
        Checks.due("settled", x.settle(0), y.settle(0));
        for (int b = 0; b < 64; b++) {
            Checks.due("whose is " + b, x.whose(b, 0), y.whose(b, 0));
            Checks.due("byte of " + b, x.whose(b, 1), y.whose(b, 1));
        }
        for (int f = 0; f < 4; f++) {
            for (int what = 0; what < 7; what++) {
                Checks.due("file " + f + ", what " + what, x.file(f, what), y.file(f, what));
            }
        }
        for (int what = -1; what < 18; what++) {
            Checks.due("count " + what, x.count(what), y.count(what));
        }
    }

    /** Each call that changes nothing, once. */
    private static void lookOn(TwinTreeVolume x) {
        x.page(1, 16, 2);
        x.file(1, 4);
        x.read(1, 16);
        x.byPlace(0, 1);
        x.fit(1);
        x.nearest(63, 1);
        x.whose(0, 0);
        x.stale(1);
        x.scatter(1);
        x.kindBest(1, 0);
        x.order(0);
        x.steps(1);
        x.loses(1, 2, 1);
        x.safe(1);
        x.gather(2, 0);
        x.first(0, 1);
        x.two(1, 0);
        x.most(0);
        x.larger(1);
        x.lost(1, 0);
        x.sure(1, 16, 0);
        x.mean(0);
        x.which(1);
        x.lots(3, 7, 0);
        x.count(5);
    }
}
