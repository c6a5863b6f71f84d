import java.util.ArrayList;
import java.util.List;
import java.util.Random;

/**
 * Long runs of calls by seeds, answered by the class and by the model alike: all promises, up to the 512th call of an
 * object, behind which nothing is promised.
 */
public final class ModelTest {
    private static final int RUNS = 400;
    private static final int CALLS = 512;

    private final Random random;
    private final TwinTreeVolume x = new TwinTreeVolume();
    private final Model m = new Model();
    private final List<String> trace = new ArrayList<>();
    private final int run;
    /** Of 100 calls, how many change pages; the rest look on. */
    private final int changing;
    private final int flushing;
    private int calls = 0;

    private ModelTest(int run) {
        this.run = run;
        random = new Random(run);
        changing = 30 + random.nextInt(60);
        flushing = random.nextInt(12);
    }

    public static void main(String[] args) {
        int runs = args.length > 0 ? Integer.parseInt(args[0]) : RUNS;
        for (int run = 0; run < runs && !Checks.isAnyWrong(); run++) {
            new ModelTest(run).play();
        }
        Checks.end();
    }

    private void play() {
        if (chance(70)) {
            for (int f = 0; f < 4; f++) {
                int kind = below(6);
                same("kind(" + f + ", " + kind + ")", x.kind(f, kind), m.kind(f, kind));
            }
        }
        if (chance(50)) {
            fillAndPunch();
        }
        while (calls < CALLS && !Checks.isAnyWrong()) {
            if (chance(2)) {
                fillAndPunch();
            } else if (chance(changing)) {
                change();
            } else {
                look();
            }
        }
    }

    private void same(String call, long got, long want) {
        calls++;
        trace.add(call);
        if (calls > CALLS) {
            return;
        }
        if (got != want) {
            System.out.println(String.join("; ", trace));
        }
        Checks.due("run " + run + ": " + call, got, want);
    }

    private boolean chance(int percent) {
        return random.nextInt(100) < percent;
    }

    private int below(int n) {
        return random.nextInt(n);
    }

    /** A number below n, now and then one just outside or far off. */
    private int about(int n) {
        if (chance(97)) {
            return below(n);
        }
        int[] odd = {-1, n, n + 1, -2, Integer.MAX_VALUE, Integer.MIN_VALUE, 1000};
        return odd[below(odd.length)];
    }

    private void change() {
        int f = about(4);
        int p = about(24);
        int pick = below(100);
        if (pick < 20) {
            sayMany(f);
        } else if (pick < 40) {
            int v = about(100);
            same("says(" + f + ", " + p + ", " + v + ")", x.says(f, p, v), m.says(f, p, v));
        } else if (pick < 50) {
            int n = 1 + about(chance(50) ? 4 : 24);
            same("ahead(" + f + ", " + p + ", " + n + ")", x.ahead(f, p, n), m.ahead(f, p, n));
        } else if (pick < 70) {
            int n = 1 + about(chance(80) ? 3 : 24);
            same("punch(" + f + ", " + p + ", " + n + ")", x.punch(f, p, n), m.punch(f, p, n));
        } else if (pick < 70 + flushing) {
            same("flush(" + f + ")", x.flush(f), m.flush(f));
        } else if (pick < 85) {
            same("settle(" + f + ")", x.settle(f), m.settle(f));
        } else if (pick < 88) {
            int k = about(chance(60) ? 10 : 100);
            same("crash(" + f + ", " + k + ")", x.crash(f, k), m.crash(f, k));
        } else if (pick < 91) {
            int kind = about(6);
            same("kind(" + f + ", " + kind + ")", x.kind(f, kind), m.kind(f, kind));
        } else if (pick < 94) {
            tell();
        } else if (pick < 96) {
            same("image()", x.image(), m.image());
        } else if (pick < 97) {
            same("on()", x.on(), m.on());
        } else {
            same("flush(" + f + ")", x.flush(f), m.flush(f));
        }
    }

    /** All blocks taken, then small gaps: pieces split, and orders and kinds of flushes come to matter. */
    private void fillAndPunch() {
        for (int i = below(4), end = i + 4; i < end; i++) {
            int f = i % 4;
            for (int p = 0; p < 24; ) {
                int n = Math.min(24 - p, 1 + below(24));
                same("ahead(" + f + ", " + p + ", " + n + ")", x.ahead(f, p, n), m.ahead(f, p, n));
                p += n;
            }
        }
        for (int i = 5 + below(30); i > 0; i--) {
            int f = below(4);
            int p = below(24);
            int n = Math.min(24 - p, 1 + below(3));
            same("punch(" + f + ", " + p + ", " + n + ")", x.punch(f, p, n), m.punch(f, p, n));
        }
        for (int f = 0; f < 4; f++) {
            int kind = below(6);
            same("kind(" + f + ", " + kind + ")", x.kind(f, kind), m.kind(f, kind));
            sayMany(f);
        }
    }

    private void sayMany(int f) {
        int p = below(24);
        int n = 1 + below(8);
        for (int i = 0; i < n; i++) {
            int v = chance(20) ? 0 : below(100);
            same("says(" + f + ", " + (p + i) + ", " + v + ")", x.says(f, p + i, v), m.says(f, p + i, v));
        }
    }

    private void tell() {
        StringBuilder text = new StringBuilder();
        for (int i = below(10); i >= 0; i--) {
            text.append(statement());
        }
        if (chance(15) && text.length() > 0) {
            text.setCharAt(below(text.length()), "wapfsckngh;0123456789 \u00ff".charAt(below(23)));
        }
        if (chance(10)) {
            text.setLength(below(text.length() + 1));
        }
        for (int i = 0; i < text.length(); i++) {
            int c = chance(99) ? text.charAt(i) : about(256);
            same("letter(" + c + ")", x.letter(c), m.letter(c));
        }
        same("volume()", x.volume(), m.volume());
    }

    private String statement() {
        int f = chance(97) ? below(4) : below(10);
        int p = chance(97) ? below(24) : below(100);
        int n = chance(97) ? 1 + below(Math.max(1, 24 - p)) : below(100);
        switch (below(10)) {
            case 0: return "a" + f + pair(p) + pair(n) + ";";
            case 1: return "p" + f + pair(p) + pair(n) + ";";
            case 2: return "f" + f + ";";
            case 3: return chance(40) ? "s" + f + ";" : "f" + f + ";";
            case 4: return chance(30) ? "c" + f + pair(below(100)) + ";" : "";
            case 5: return "k" + f + "pnsghc".charAt(below(6)) + ";";
            default: return "w" + f + pair(p) + pair(below(100)) + ";";
        }
    }

    private static String pair(int n) {
        return "" + n / 10 + n % 10;
    }

    private void look() {
        int f = about(4);
        int p = about(24);
        int what = about(2);
        switch (below(26)) {
            case 0 -> { int w = about(3); same("page(" + f + ", " + p + ", " + w + ")", x.page(f, p, w), m.page(f, p, w)); }
            case 1 -> { int w = about(7); same("file(" + f + ", " + w + ")", x.file(f, w), m.file(f, w)); }
            case 2 -> same("read(" + f + ", " + p + ")", x.read(f, p), m.read(f, p));
            case 3 -> { int i = about(6); same("byPlace(" + i + ", " + what + ")", x.byPlace(i, what), m.byPlace(i, what)); }
            case 4 -> { int n = 1 + about(chance(70) ? 12 : 64); same("fit(" + n + ")", x.fit(n), m.fit(n)); }
            case 5 -> {
                int b = about(64);
                int n = 1 + about(chance(70) ? 8 : 64);
                same("nearest(" + b + ", " + n + ")", x.nearest(b, n), m.nearest(b, n));
            }
            case 6 -> { int b = about(64); same("whose(" + b + ", " + what + ")", x.whose(b, what), m.whose(b, what)); }
            case 7 -> same("stale(" + what + ")", x.stale(what), m.stale(what));
            case 8 -> same("scatter(" + f + ")", x.scatter(f), m.scatter(f));
            case 9 -> same("kindBest(" + f + ", " + what + ")", x.kindBest(f, what), m.kindBest(f, what));
            case 10 -> { if (chance(25)) { same("order(" + what + ")", x.order(what), m.order(what)); } }
            case 11 -> same("steps(" + f + ")", x.steps(f), m.steps(f));
            case 12 -> {
                int k = about(chance(70) ? 20 : 100);
                same("loses(" + f + ", " + k + ", " + what + ")", x.loses(f, k, what), m.loses(f, k, what));
            }
            case 13 -> same("safe(" + f + ")", x.safe(f), m.safe(f));
            case 14 -> { int n = 1 + about(64); same("gather(" + n + ", " + what + ")", x.gather(n, what), m.gather(n, what)); }
            case 15 -> { int g = about(4); same("first(" + f + ", " + g + ")", x.first(f, g), m.first(f, g)); }
            case 16 -> { int g = about(4); same("two(" + f + ", " + g + ")", x.two(f, g), m.two(f, g)); }
            case 17 -> same("most(" + f + ")", x.most(f), m.most(f));
            case 18 -> same("larger(" + f + ")", x.larger(f), m.larger(f));
            case 19 -> same("lost(" + f + ", " + what + ")", x.lost(f, what), m.lost(f, what));
            case 20 -> same("sure(" + f + ", " + p + ", " + what + ")", x.sure(f, p, what), m.sure(f, p, what));
            case 21 -> same("mean(" + what + ")", x.mean(what), m.mean(what));
            case 22 -> rows();
            case 23 -> {
                int n = 1 + about(chance(80) ? 3 : 20);
                int z = random.nextInt();
                same("lots(" + n + ", " + z + ", " + what + ")", x.lots(n, z, what), m.lots(n, z, what));
            }
            default -> { int w = below(20) - 1; same("count(" + w + ")", x.count(w), m.count(w)); }
        }
    }

    private void put(int v) {
        same("row(" + v + ")", x.row(v), m.row(v));
    }

    /** Rows that tell the truth but for a number now and then, and what they are asked about. */
    private void rows() {
        int f = about(4);
        if (chance(80)) {
            same("clear()", x.clear(), m.clear());
        }
        int pick = below(4);
        List<Integer> truth = pick == 0 ? placesOf(f) : pick == 1 ? runsNow() : pick == 2 ? promisedBy(f) : new ArrayList<>();
        if (pick == 3) {
            for (int i = below(5); i > 0; i--) {
                truth.add(below(100));
            }
        }
        boolean isAltered = chance(30) && !truth.isEmpty();
        if (isAltered) {
            truth.set(below(truth.size()), below(100));
        }
        int many = chance(70) ? truth.size() : below(truth.size() + 1);
        for (int v : truth.subList(0, many)) {
            put(v);
        }
        if (chance(10)) {
            put(about(100));
        }
        switch (pick == 3 ? below(3) : pick) {
            case 0 -> same("judge(" + f + ")", x.judge(f), m.judge(f));
            case 1 -> same("forged()", x.forged(), m.forged());
            default -> same("which(" + f + ")", x.which(f), m.which(f));
        }
    }

    private List<Integer> placesOf(int f) {
        List<Integer> places = new ArrayList<>();
        if (Model.file(f)) {
            for (Model.Page page : m.now.pages[f]) {
                places.add(page.block == null ? 99 : page.block);
            }
        }
        for (int i = chance(30) ? below(9) : 0; i > 0; i--) {
            places.add(99);
        }
        return places;
    }

    private List<Integer> runsNow() {
        List<Integer> numbers = new ArrayList<>();
        for (Model.Run r : m.now.runs()) {
            numbers.add(r.start());
            numbers.add(r.size());
        }
        return numbers;
    }

    private List<Integer> promisedBy(int f) {
        List<Integer> places = new ArrayList<>();
        if (Model.file(f)) {
            Model.World w = m.now.copy();
            w.kinds[f] = below(6);
            w.flush(f, Model.ALL);
            for (int p = 0; p < 24; p++) {
                if (m.now.pages[f][p].reserved()) {
                    places.add(w.pages[f][p].block);
                }
            }
        }
        return places;
    }
}
