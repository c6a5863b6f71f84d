import java.util.ArrayList;
import java.util.Comparator;
import java.util.List;
import java.util.Optional;
import java.util.regex.Matcher;
import java.util.regex.Pattern;

/**
 * The document once more, told in another way than the class does it: pages as objects, a flush step by step,
 * places found by trying. What the two answer is compared by ModelTest.
 */
final class Model {
    static final class Page {
        Integer block;
        boolean written;
        Integer waits;

        Page copy() {
            Page p = new Page();
            p.block = block;
            p.written = written;
            p.waits = waits;
            return p;
        }

        boolean hole() {
            return block == null && waits == null;
        }

        boolean reserved() {
            return block == null && waits != null;
        }
    }

    record Run(int start, int size) {
    }

    static final class World {
        final Page[][] pages = new Page[4][24];
        final int[] bytes = new int[64];
        final int[] kinds = new int[4];

        World() {
            for (Page[] file : pages) {
                for (int p = 0; p < 24; p++) {
                    file[p] = new Page();
                }
            }
        }

        World copy() {
            World w = new World();
            for (int f = 0; f < 4; f++) {
                for (int p = 0; p < 24; p++) {
                    w.pages[f][p] = pages[f][p].copy();
                }
                w.kinds[f] = kinds[f];
            }
            System.arraycopy(bytes, 0, w.bytes, 0, 64);
            return w;
        }

        /** 100 times the file and the page, or null. */
        Integer whose(int block) {
            for (int f = 0; f < 4; f++) {
                for (int p = 0; p < 24; p++) {
                    if (pages[f][p].block != null && pages[f][p].block == block) {
                        return 100 * f + p;
                    }
                }
            }
            return null;
        }

        boolean[] map() {
            boolean[] taken = new boolean[64];
            for (Page[] file : pages) {
                for (Page page : file) {
                    if (page.block != null) {
                        taken[page.block] = true;
                    }
                }
            }
            return taken;
        }

        boolean free(int from, int n) {
            boolean[] taken = map();
            for (int b = from; b < from + n; b++) {
                if (b < 0 || b > 63 || taken[b]) {
                    return false;
                }
            }
            return true;
        }

        List<Run> runs() {
            StringBuilder line = new StringBuilder();
            for (boolean t : map()) {
                line.append(t ? 'x' : '.');
            }
            List<Run> runs = new ArrayList<>();
            Matcher m = Pattern.compile("\\.+").matcher(line);
            while (m.find()) {
                runs.add(new Run(m.start(), m.end() - m.start()));
            }
            return runs;
        }

        List<Run> runsBySize() {
            List<Run> runs = runs();
            runs.sort(Comparator.comparingInt(Run::size).thenComparingInt(Run::start));
            return runs;
        }

        Optional<Run> least(int n) {
            return runsBySize().stream().filter(r -> r.size >= n).findFirst();
        }

        Optional<Run> greatest() {
            return runs().stream().min(Comparator.comparingInt((Run r) -> -r.size).thenComparingInt(Run::start));
        }

        Optional<Run> nearest(int block, int n) {
            return runs().stream().filter(r -> r.size >= n)
                    .min(Comparator.comparingInt((Run r) -> Math.abs(r.start - block)).thenComparingInt(Run::start));
        }

        int freeBlocks() {
            return runs().stream().mapToInt(Run::size).sum();
        }

        int reserved() {
            int n = 0;
            for (Page[] file : pages) {
                for (Page page : file) {
                    n += page.reserved() ? 1 : 0;
                }
            }
            return n;
        }

        int room() {
            return Math.max(freeBlocks() - reserved(), 0);
        }

        int greatestSize() {
            return greatest().map(Run::size).orElse(0);
        }

        int read(int f, int p) {
            Page page = pages[f][p];
            if (page.waits != null) {
                return page.waits;
            }
            return page.block != null && page.written ? bytes[page.block] : 0;
        }

        int extents(int f) {
            int n = 0;
            int p = 0;
            while (p < 24) {
                if (pages[f][p].block == null) {
                    p++;
                    continue;
                }
                n++;
                int q = p + 1;
                while (q < 24 && pages[f][q].block != null && pages[f][q].block == pages[f][p].block + (q - p)
                        && pages[f][q].written == pages[f][p].written) {
                    q++;
                }
                p = q;
            }
            return n;
        }

        int extents() {
            return extents(0) + extents(1) + extents(2) + extents(3);
        }

        Integer goal(int f, int p) {
            if (p == 0 || pages[f][p - 1].block == null || pages[f][p - 1].block == 63) {
                return null;
            }
            return pages[f][p - 1].block + 1;
        }

        int plain(int n) {
            return least(n).get().start;
        }

        int near(Integer goal, int n) {
            return goal != null && free(goal, n) ? goal : plain(n);
        }

        int begin(int kind, Integer goal, int n) {
            if (kind == 0) {
                return plain(n);
            } else if (kind == 1) {
                return near(goal, n);
            } else if (kind == 2) {
                if (n >= 4) {
                    for (int b = 0; b < 64; b++) {
                        if (b % 4 == 0 && free(b, n)) {
                            return b;
                        }
                    }
                }
                return near(goal, n);
            } else if (kind == 3) {
                return greatest().get().start;
            } else if (kind == 4) {
                Run r = least(n).get();
                return r.start + r.size - n;
            }
            if (goal == null) {
                return plain(n);
            }
            return free(goal, n) ? goal : nearest(goal, n).get().start;
        }

        /** Puts one piece of the series; the number of its pages. */
        int putOne(int f, int p, int n) {
            int m = n;
            int at;
            if (least(n).isPresent()) {
                at = begin(kinds[f], goal(f, p), n);
            } else {
                m = greatest().get().size;
                at = greatest().get().start;
            }
            for (int i = 0; i < m; i++) {
                pages[f][p + i].block = at + i;
                pages[f][p + i].written = false;
            }
            return m;
        }

        boolean say(int f, int p, int v) {
            if (pages[f][p].hole() && room() == 0) {
                return false;
            }
            pages[f][p].waits = v;
            return true;
        }

        /** -1 without room. */
        int ahead(int f, int p, int n) {
            List<Integer> holes = new ArrayList<>();
            for (int q = p; q < p + n; q++) {
                if (pages[f][q].hole()) {
                    holes.add(q);
                }
            }
            if (holes.size() > room()) {
                return -1;
            }
            int i = 0;
            while (i < holes.size()) {
                int j = i;
                while (j + 1 < holes.size() && holes.get(j + 1) == holes.get(j) + 1) {
                    j++;
                }
                for (int at = holes.get(i), left = j - i + 1; left > 0; ) {
                    int m = putOne(f, at, left);
                    at += m;
                    left -= m;
                }
                i = j + 1;
            }
            return holes.size();
        }

        int punch(int f, int p, int n) {
            int freed = 0;
            for (int q = p; q < p + n; q++) {
                freed += pages[f][q].block == null ? 0 : 1;
                pages[f][q] = new Page();
            }
            return freed;
        }

        /** One step after another, up to k: how many there were. */
        int flush(int f, int k) {
            boolean byteWritten = false;
            for (int made = 0; made < k; made++) {
                int unplaced = first(f, true);
                int waiting = first(f, false);
                if (unplaced >= 0) {
                    int n = 1;
                    while (unplaced + n < 24 && pages[f][unplaced + n].reserved()) {
                        n++;
                    }
                    putOne(f, unplaced, n);
                } else if (waiting < 0) {
                    return made;
                } else if (!byteWritten) {
                    bytes[pages[f][waiting].block] = pages[f][waiting].waits;
                    byteWritten = true;
                } else {
                    pages[f][waiting].written = true;
                    pages[f][waiting].waits = null;
                    byteWritten = false;
                }
            }
            return k;
        }

        int first(int f, boolean unplaced) {
            for (int p = 0; p < 24; p++) {
                if (pages[f][p].waits != null && (!unplaced || pages[f][p].block == null)) {
                    return p;
                }
            }
            return -1;
        }

        int crash(int f, int k) {
            flush(f, k);
            int n = 0;
            for (Page[] file : pages) {
                for (Page page : file) {
                    n += page.waits == null ? 0 : 1;
                    page.waits = null;
                }
            }
            return n;
        }

        /** -1 if it can not be. */
        int settle(int f) {
            List<Page> placed = new ArrayList<>();
            for (Page page : pages[f]) {
                if (page.block != null) {
                    placed.add(page);
                }
            }
            Optional<Run> to = placed.isEmpty() ? Optional.empty() : least(placed.size());
            if (to.isEmpty()) {
                return -1;
            }
            for (int i = 0; i < placed.size(); i++) {
                bytes[to.get().start + i] = bytes[placed.get(i).block];
                placed.get(i).block = to.get().start + i;
            }
            return to.get().start;
        }
    }

    static final int ALL = 1000;
    World now = new World();
    World image = null;
    final List<Integer> row = new ArrayList<>();
    final StringBuilder letters = new StringBuilder();
    final int[] refusals = new int[7];

    int refuse(int why) {
        refusals[-why]++;
        return why;
    }

    static boolean file(int f) {
        return f >= 0 && f <= 3;
    }

    static boolean page(int p) {
        return p >= 0 && p <= 23;
    }

    static int or9(Integer n) {
        return n == null ? -9 : n;
    }

    int letter(int c) {
        if (c < 0) {
            return refuse(-4);
        }
        if (c > 255 || letters.length() == 96) {
            return refuse(-6);
        }
        letters.append((char) c);
        return letters.length();
    }

    static final Pattern STATEMENT = Pattern.compile("([wap]\\d{5}|[fs]\\d|c\\d{3}|k\\d[pnsghc]);");
    static final String[] SHAPES = {"w00000;", "a00000;", "p00000;", "f0;", "s0;", "c000;", "k0p;"};

    /** Whether a text can go on to become statements. */
    static boolean canGoOn(String text) {
        String rest = text;
        Matcher m = STATEMENT.matcher(rest);
        while (m.lookingAt()) {
            rest = rest.substring(m.end());
            m = STATEMENT.matcher(rest);
        }
        if (rest.isEmpty()) {
            return true;
        }
        for (String shape : SHAPES) {
            for (char kind : "pnsghc".toCharArray()) {
                String whole = shape.charAt(0) == 'k' ? "k0" + kind + ";" : shape;
                if (rest.length() <= whole.length() && STATEMENT.matcher(rest + whole.substring(rest.length())).matches()) {
                    return true;
                }
            }
        }
        return false;
    }

    int volume() {
        String text = letters.toString();
        letters.setLength(0);
        for (int i = 1; i <= text.length(); i++) {
            if (!canGoOn(text.substring(0, i))) {
                return -1000 - (i - 1);
            }
        }
        if (text.isEmpty() || text.charAt(text.length() - 1) != ';') {
            return -1000 - text.length();
        }
        World w = now.copy();
        int place = 0;
        int many = 0;
        for (String statement : text.split(";")) {
            if (!statement(w, statement)) {
                return -2000 - place;
            }
            place += statement.length() + 1;
            many++;
        }
        now = w;
        return many;
    }

    static boolean statement(World w, String s) {
        int f = s.charAt(1) - '0';
        if (f > 3) {
            return false;
        }
        char head = s.charAt(0);
        if (head == 'f') {
            w.flush(f, ALL);
            return true;
        } else if (head == 's') {
            return w.settle(f) >= 0;
        } else if (head == 'k') {
            w.kinds[f] = "pnsghc".indexOf(s.charAt(2));
            return true;
        } else if (head == 'c') {
            w.crash(f, Integer.parseInt(s.substring(2)));
            return true;
        }
        int p = Integer.parseInt(s.substring(2, 4));
        int n = Integer.parseInt(s.substring(4));
        if (p > 23) {
            return false;
        }
        if (head == 'w') {
            return w.say(f, p, n);
        }
        if (n == 0 || p + n > 24) {
            return false;
        }
        return head == 'a' ? w.ahead(f, p, n) >= 0 : w.punch(f, p, n) >= 0;
    }

    int page(int f, int p, int what) {
        if (!file(f) || !page(p)) {
            return refuse(-1);
        }
        if (what < 0 || what > 2) {
            return refuse(-2);
        }
        Page page = now.pages[f][p];
        return what == 0 ? or9(page.block) : what == 1 ? (page.block != null && page.written ? 1 : 0) : or9(page.waits);
    }

    int file(int f, int what) {
        if (!file(f)) {
            return refuse(-1);
        }
        if (what < 0 || what > 6) {
            return refuse(-2);
        }
        int[] answers = new int[7];
        answers[0] = now.kinds[f];
        for (Page page : now.pages[f]) {
            answers[1] += page.block != null ? 1 : 0;
            answers[2] += page.waits != null ? 1 : 0;
            answers[3] += page.reserved() ? 1 : 0;
            answers[6] += page.block != null && page.written ? 1 : 0;
        }
        answers[4] = now.extents(f);
        answers[5] = answers[4] < 5 ? 0 : answers[4] < 17 ? 1 : 2;
        return answers[what];
    }

    int read(int f, int p) {
        return file(f) && page(p) ? now.read(f, p) : refuse(-1);
    }

    int says(int f, int p, int v) {
        if (!file(f) || !page(p)) {
            return refuse(-1);
        }
        if (v < 0) {
            return refuse(-4);
        }
        if (v > 99) {
            return refuse(-6);
        }
        int was = now.read(f, p);
        return now.say(f, p, v) ? was : refuse(-6);
    }

    int ahead(int f, int p, int n) {
        if (!file(f) || !page(p)) {
            return refuse(-1);
        }
        if (n < 1) {
            return refuse(-4);
        }
        if ((long) p + n > 24) {
            return refuse(-6);
        }
        int put = now.ahead(f, p, n);
        return put < 0 ? refuse(-6) : put;
    }

    int punch(int f, int p, int n) {
        if (!file(f) || !page(p)) {
            return refuse(-1);
        }
        if (n < 1) {
            return refuse(-4);
        }
        return (long) p + n > 24 ? refuse(-6) : now.punch(f, p, n);
    }

    int flush(int f) {
        return file(f) ? now.flush(f, ALL) : refuse(-1);
    }

    int settle(int f) {
        if (!file(f)) {
            return refuse(-1);
        }
        int at = now.settle(f);
        return at < 0 ? refuse(-3) : at;
    }

    int crash(int f, int k) {
        if (!file(f)) {
            return refuse(-1);
        }
        return k < 0 ? refuse(-4) : k > 99 ? refuse(-6) : now.crash(f, k);
    }

    int kind(int f, int kind) {
        if (!file(f)) {
            return refuse(-1);
        }
        if (kind < 0 || kind > 5) {
            return refuse(-2);
        }
        int had = now.kinds[f];
        now.kinds[f] = kind;
        return had;
    }

    static boolean two(int what) {
        return what == 0 || what == 1;
    }

    int byPlace(int i, int what) {
        if (!two(what)) {
            return refuse(-2);
        }
        List<Run> runs = what == 0 ? now.runs() : now.runsBySize();
        return i < 0 || i >= runs.size() ? refuse(-1) : 100 * runs.get(i).start + runs.get(i).size;
    }

    int fit(int n) {
        return n < 1 ? refuse(-4) : n > 64 ? refuse(-6) : now.least(n).map(Run::start).orElse(-9);
    }

    int nearest(int block, int n) {
        if (block < 0 || block > 63) {
            return refuse(-1);
        }
        return n < 1 ? refuse(-4) : n > 64 ? refuse(-6) : now.nearest(block, n).map(Run::start).orElse(-9);
    }

    int whose(int block, int what) {
        if (block < 0 || block > 63) {
            return refuse(-1);
        }
        return !two(what) ? refuse(-2) : what == 0 ? or9(now.whose(block)) : now.bytes[block];
    }

    int stale(int what) {
        if (!two(what)) {
            return refuse(-2);
        }
        int n = 0;
        for (int b = 0; b < 64; b++) {
            Integer whose = now.whose(b);
            boolean is = what == 0 ? whose == null : whose != null && !now.pages[whose / 100][whose % 100].written;
            n += is && now.bytes[b] > 0 ? 1 : 0;
        }
        return n;
    }

    int scattered(int f, int kind) {
        World w = now.copy();
        w.kinds[f] = kind;
        w.flush(f, ALL);
        return w.extents(f);
    }

    int scatter(int f) {
        return file(f) ? scattered(f, now.kinds[f]) : refuse(-1);
    }

    int kindBest(int f, int what) {
        if (!file(f)) {
            return refuse(-1);
        }
        if (!two(what)) {
            return refuse(-2);
        }
        int best = 5;
        for (int kind = 5; kind >= 0; kind--) {
            best = scattered(f, kind) <= scattered(f, best) ? kind : best;
        }
        return what == 0 ? best : scattered(f, best);
    }

    int order(int what) {
        if (!two(what)) {
            return refuse(-2);
        }
        int best = 0;
        int fewest = 1000;
        for (int number = 1234; number <= 4321; number++) {
            String digits = Integer.toString(number);
            if (!(digits.contains("1") && digits.contains("2") && digits.contains("3") && digits.contains("4"))) {
                continue;
            }
            World w = now.copy();
            for (char c : digits.toCharArray()) {
                w.flush(c - '1', ALL);
            }
            if (w.extents() < fewest) {
                fewest = w.extents();
                best = number;
            }
        }
        return what == 0 ? best : fewest;
    }

    int stepsOf(int f) {
        return now.copy().flush(f, ALL);
    }

    int steps(int f) {
        return file(f) ? stepsOf(f) : refuse(-1);
    }

    int lossOf(int f, int k, boolean own) {
        World w = now.copy();
        w.crash(f, k);
        int n = 0;
        for (int g = 0; g < 4; g++) {
            for (int p = 0; p < 24; p++) {
                n += (g == f) == own && w.read(g, p) != now.read(g, p) ? 1 : 0;
            }
        }
        return n;
    }

    int loses(int f, int k, int what) {
        if (!file(f)) {
            return refuse(-1);
        }
        if (k < 0) {
            return refuse(-4);
        }
        return k > 99 ? refuse(-6) : !two(what) ? refuse(-2) : lossOf(f, k, what == 0);
    }

    int safe(int f) {
        if (!file(f)) {
            return refuse(-1);
        }
        int k = 0;
        while (lossOf(f, k, true) > 0) {
            k++;
        }
        return k;
    }

    int gather(int n, int what) {
        if (n < 1) {
            return refuse(-4);
        }
        if (n > 64) {
            return refuse(-6);
        }
        if (!two(what)) {
            return refuse(-2);
        }
        int[] best = null;
        boolean[] taken = now.map();
        for (int s = 0; s <= 64 - n; s++) {
            int inside = 0;
            int freeOutside = 0;
            for (int b = 0; b < 64; b++) {
                boolean isInside = b >= s && b < s + n;
                inside += isInside && taken[b] ? 1 : 0;
                freeOutside += !isInside && !taken[b] ? 1 : 0;
            }
            if (inside <= freeOutside && (best == null || inside < best[1])) {
                best = new int[] {s, inside};
            }
        }
        return best == null ? -9 : best[what];
    }

    int together(int a, int b) {
        World w = now.copy();
        w.flush(a, ALL);
        w.flush(b, ALL);
        return w.extents(a) + w.extents(b);
    }

    int first(int a, int b) {
        if (!file(a) || !file(b) || a == b) {
            return refuse(-1);
        }
        int d = together(a, b) - together(b, a);
        return d == 0 ? -9 : d < 0 ? 0 : 1;
    }

    int[] game(int a, int b, int x, int y) {
        World w = now.copy();
        if (x == 1) {
            w.flush(a, ALL);
        }
        if (y == 1) {
            w.flush(b, ALL);
        }
        w.flush(b, ALL);
        w.flush(a, ALL);
        return new int[] {w.extents(a), w.extents(b)};
    }

    int two(int a, int b) {
        if (!file(a) || !file(b) || a == b) {
            return refuse(-1);
        }
        for (int x = 0; x < 2; x++) {
            for (int y = 0; y < 2; y++) {
                int[] here = game(a, b, x, y);
                if (game(a, b, 1 - x, y)[0] >= here[0] && game(a, b, x, 1 - y)[1] >= here[1]) {
                    return 10 * x + y;
                }
            }
        }
        return -9;
    }

    int most(int f) {
        if (!file(f)) {
            return refuse(-1);
        }
        World w = now.copy();
        int n = 0;
        for (int p = 0; p < 24; p++) {
            n += w.pages[f][p].hole() && w.say(f, p, 1) ? 1 : 0;
        }
        return n;
    }

    int larger(int f) {
        if (!file(f)) {
            return 1000000000 - refuse(-1);
        }
        World w = now.copy();
        return w.settle(f) < 0 ? 0 : w.greatestSize() - now.greatestSize();
    }

    static long fraction(long above, long below, int part) {
        for (long d = below; d > 1; d--) {
            if (above % d == 0 && below % d == 0) {
                return fraction(above / d, below / d, part);
            }
        }
        return part == 0 ? above : above == 0 ? 1 : below;
    }

    long lost(int f, int part) {
        if (!file(f)) {
            return 4000000000000000000L - refuse(-1);
        }
        if (!two(part)) {
            return 4000000000000000000L - refuse(-2);
        }
        int sum = 0;
        for (int k = 0; k <= stepsOf(f); k++) {
            sum += lossOf(f, k, true);
        }
        return fraction(sum, stepsOf(f) + 1, part);
    }

    long sure(int f, int p, int part) {
        if (!file(f) || !page(p)) {
            return 4000000000000000000L - refuse(-1);
        }
        if (!two(part)) {
            return 4000000000000000000L - refuse(-2);
        }
        int sum = 0;
        for (int k = 0; k <= stepsOf(f); k++) {
            World w = now.copy();
            w.crash(f, k);
            sum += w.read(f, p) == now.read(f, p) ? 1 : 0;
        }
        return fraction(sum, stepsOf(f) + 1, part);
    }

    long mean(int part) {
        if (!two(part)) {
            return 4000000000000000000L - refuse(-2);
        }
        return fraction(64 - now.freeBlocks(), now.extents(), part);
    }

    int which(int f) {
        if (!file(f)) {
            return refuse(-1);
        }
        List<Integer> such = new ArrayList<>();
        for (int p = 0; p < 24; p++) {
            if (now.pages[f][p].reserved()) {
                such.add(p);
            }
        }
        if (row.size() > such.size()) {
            return refuse(-3);
        }
        int bits = 0;
        for (int kind = 0; kind < 6; kind++) {
            World w = now.copy();
            w.kinds[f] = kind;
            w.flush(f, ALL);
            List<Integer> at = new ArrayList<>();
            for (int p : such.subList(0, row.size())) {
                at.add(w.pages[f][p].block);
            }
            bits += at.equals(row) ? 1 << kind : 0;
        }
        return bits;
    }

    int row(int v) {
        if (v < 0) {
            return refuse(-4);
        }
        if (v > 99 || row.size() == 32) {
            return refuse(-6);
        }
        row.add(v);
        return row.size();
    }

    int judge(int f) {
        if (!file(f)) {
            return refuse(-1);
        }
        int answer = -9;
        for (int i = row.size() - 1; i >= 0; i--) {
            Integer block = i < 24 ? now.pages[f][i].block : null;
            answer = row.get(i) == (block == null ? 99 : block) ? answer : i;
        }
        row.clear();
        return answer;
    }

    int forged() {
        if (row.size() % 2 == 1) {
            return refuse(-3);
        }
        List<Run> claimed = new ArrayList<>();
        for (int i = 0; i < row.size(); i += 2) {
            claimed.add(new Run(row.get(i), row.get(i + 1)));
        }
        row.clear();
        List<Run> runs = now.runs();
        if (claimed.equals(runs)) {
            return -9;
        }
        int i = 0;
        while (i < claimed.size() && i < runs.size() && claimed.get(i).equals(runs.get(i))) {
            i++;
        }
        return i;
    }

    int clear() {
        int n = row.size();
        row.clear();
        return n;
    }

    int seed;

    int draw(int m) {
        long z = (long) seed * 1664525L + 1013904223L;
        seed = (int) z;
        return (int) ((z & 0x7fffffffL) / 256 % m);
    }

    int lots(int n, int z, int what) {
        if (n < 1) {
            return refuse(-4);
        }
        if (n > 20) {
            return refuse(-6);
        }
        if (!two(what)) {
            return refuse(-2);
        }
        seed = z;
        int sum = 0;
        for (int i = 0; i < n; i++) {
            World w = now.copy();
            for (int j = 0; j < 8; j++) {
                int f = draw(4);
                int p = draw(24);
                w.say(f, p, draw(100));
            }
            for (int f = 0; f < 4; f++) {
                w.flush(f, ALL);
            }
            sum += what == 0 ? w.extents() : w.runs().size();
        }
        return sum;
    }

    int image() {
        image = now.copy();
        return now.freeBlocks();
    }

    int on() {
        if (image == null) {
            return refuse(-3);
        }
        now = image.copy();
        return now.freeBlocks();
    }

    int count(int what) {
        switch (what) {
            case 0: return now.freeBlocks();
            case 1: return now.reserved();
            case 2: return now.room();
            case 3: return now.runs().size();
            case 4: return now.greatestSize();
            case 5: return now.extents();
            case 6: return row.size();
            case 7: return letters.length();
            default: return what >= 11 && what <= 16 ? refusals[what - 10] : -9;
        }
    }
}
