/**
 * A volume of 64 blocks that four files share, with its free runs in two orders, by place and by size.
 * The document (../shared/DOC.md) says what every call answers and refuses.
 *
 * All rows are made in constructors and used again: the calls of a run share one room, so no call makes
 * an object. Questions "in mind" are played on a second disk that is copied from the real one each time.
 */
public final class TwinTreeVolume {

    private static final int BLOCKS = 64;
    private static final int FILES = 4;
    private static final int PAGES = 24;
    private static final int TOP = 99;
    private static final int MOST_LETTERS = 96;
    private static final int MOST_NUMBERS = 32;
    private static final int MOST_LOTS = 20;

    /** Above what any flush has: 24 pieces and two steps for each of 24 pages. */
    private static final int ALL_STEPS = 1000;

    /** What an answer says where there is nothing to tell. */
    private static final int NOTHING = -9;

    /** A block that is no block, an owner that is no page, a value that no page waits with. */
    private static final int NONE = -1;

    private static final int KINDS = 6;
    private static final int NEAR = 1;
    private static final int STRIPED = 2;
    private static final int GREAT = 3;
    private static final int HIGH = 4;
    private static final int CLOSE = 5;
    private static final int STRIPE = 4;

    private static final int NOBODY = -1;
    private static final int OTHER = -2;
    private static final int STATE = -3;
    private static final int BELOW = -4;
    private static final int ABOVE = -6;

    /** larger() may answer a number below 0, and a long may be any, so their refusals lie far off. */
    private static final int FAR_INT = 1000000000;
    private static final long FAR_LONG = 4000000000000000000L;

    private final Disk now;
    private final Disk kept;
    private final Disk trial;
    private final Mind mind;
    private final Text text;
    private final Row told;
    private final int[] refusals;
    private boolean isKept;

    /** Promise 1. */
    public TwinTreeVolume() {
        Disk real = new Disk();
        Disk second = new Disk();
        now = real;
        trial = second;
        kept = new Disk();
        mind = new Mind(real, second);
        text = new Text();
        told = new Row(MOST_NUMBERS);
        refusals = new int[7];
        isKept = false;
    }

    /** Promise 2. */
    public int letter(int c) {
        if (c < 0) {
            return refuse(BELOW);
        }
        if (c > 255 || text.signs.isFull()) {
            return refuse(ABOVE);
        }
        return text.signs.add(c);
    }

    /** Promise 3: played on the second disk first, since with a fault nothing of the text comes. */
    public int volume() {
        int answer = text.faultOfForm();
        if (answer == 0) {
            trial.copyFrom(now);
            answer = text.playOn(trial);
        }
        if (answer > 0) {
            now.copyFrom(trial);
        }
        text.signs.empty();
        return answer;
    }

    /** Promise 4. */
    public int page(int file, int page, int what) {
        if (!isFile(file) || !isPage(page)) {
            return refuse(NOBODY);
        }
        switch (what) {
            case 0:
                return orNothing(now.blockAt(file, page));
            case 1:
                return now.isWritten(file, page) ? 1 : 0;
            case 2:
                return orNothing(now.valueAt(file, page));
            default:
                return refuse(OTHER);
        }
    }

    /** Promise 5. */
    public int file(int file, int what) {
        if (!isFile(file)) {
            return refuse(NOBODY);
        }
        switch (what) {
            case 0:
                return now.kindAt(file);
            case 1:
                return now.placedIn(file);
            case 2:
                return now.waitingIn(file);
            case 3:
                return now.promisedIn(file);
            case 4:
                return now.extentsIn(file);
            case 5:
                return depthOf(now.extentsIn(file));
            case 6:
                return now.writtenIn(file);
            default:
                return refuse(OTHER);
        }
    }

    /** Promise 6. */
    public int read(int file, int page) {
        if (!isFile(file) || !isPage(page)) {
            return refuse(NOBODY);
        }
        return now.readAt(file, page);
    }

    /** Promise 7. */
    public int says(int file, int page, int v) {
        if (!isFile(file) || !isPage(page)) {
            return refuse(NOBODY);
        }
        if (v < 0) {
            return refuse(BELOW);
        }
        int before = now.readAt(file, page);
        if (v > TOP || !now.sayAt(file, page, v)) {
            return refuse(ABOVE);
        }
        return before;
    }

    /** Promise 8. */
    public int ahead(int file, int page, int n) {
        if (!isFile(file) || !isPage(page)) {
            return refuse(NOBODY);
        }
        if (n < 1) {
            return refuse(BELOW);
        }
        int put = n > PAGES - page ? NONE : now.putHoles(file, page, n);
        return put < 0 ? refuse(ABOVE) : put;
    }

    /** Promise 9. */
    public int punch(int file, int page, int n) {
        if (!isFile(file) || !isPage(page)) {
            return refuse(NOBODY);
        }
        if (n < 1) {
            return refuse(BELOW);
        }
        if (n > PAGES - page) {
            return refuse(ABOVE);
        }
        return now.punchOut(file, page, n);
    }

    /** Promise 10. */
    public int flush(int file) {
        if (!isFile(file)) {
            return refuse(NOBODY);
        }
        return now.flushUpTo(file, ALL_STEPS);
    }

    /** Promise 11. */
    public int settle(int file) {
        if (!isFile(file)) {
            return refuse(NOBODY);
        }
        int start = now.settleDown(file);
        return start < 0 ? refuse(STATE) : start;
    }

    /** Promise 12. */
    public int crash(int file, int k) {
        if (!isFile(file)) {
            return refuse(NOBODY);
        }
        if (k < 0) {
            return refuse(BELOW);
        }
        if (k > TOP) {
            return refuse(ABOVE);
        }
        now.flushUpTo(file, k);
        return now.dropWaiting();
    }

    /** Promise 13. */
    public int kind(int file, int kind) {
        if (!isFile(file)) {
            return refuse(NOBODY);
        }
        if (kind < 0 || kind >= KINDS) {
            return refuse(OTHER);
        }
        int before = now.kindAt(file);
        now.turnKind(file, kind);
        return before;
    }

    /** Promise 14. */
    public int byPlace(int i, int what) {
        if (!isEither(what)) {
            return refuse(OTHER);
        }
        Runs runs = now.lookedAtRuns();
        if (i < 0 || i >= runs.many) {
            return refuse(NOBODY);
        }
        int at = what == 0 ? i : runs.atRankOfSize(i);
        return 100 * runs.startAt(at) + runs.sizeAt(at);
    }

    /** Promise 15. */
    public int fit(int n) {
        int why = refusalOfSize(n);
        if (why < 0) {
            return refuse(why);
        }
        Runs runs = now.lookedAtRuns();
        return orNothing(runs.startAt(runs.leastFor(n)));
    }

    /** Promise 16. */
    public int nearest(int block, int n) {
        if (!isBlock(block)) {
            return refuse(NOBODY);
        }
        int why = refusalOfSize(n);
        if (why < 0) {
            return refuse(why);
        }
        Runs runs = now.lookedAtRuns();
        return orNothing(runs.startAt(runs.closestTo(block, n)));
    }

    /** Promise 17. */
    public int whose(int block, int what) {
        if (!isBlock(block)) {
            return refuse(NOBODY);
        }
        if (!isEither(what)) {
            return refuse(OTHER);
        }
        if (what == 1) {
            return now.byteAt(block);
        }
        int owner = now.ownerAt(block);
        return owner < 0 ? NOTHING : 100 * (owner / PAGES) + owner % PAGES;
    }

    /** Promise 18. */
    public int stale(int what) {
        if (!isEither(what)) {
            return refuse(OTHER);
        }
        return now.staleBlocks(what == 0);
    }

    /** Promise 19. */
    public int scatter(int file) {
        if (!isFile(file)) {
            return refuse(NOBODY);
        }
        return mind.extentsByKind(file, now.kindAt(file));
    }

    /** Promise 20. */
    public int kindBest(int file, int what) {
        if (!isFile(file)) {
            return refuse(NOBODY);
        }
        if (!isEither(what)) {
            return refuse(OTHER);
        }
        int best = mind.leastKind(file);
        return what == 0 ? best : mind.extentsByKind(file, best);
    }

    /** Promise 21. */
    public int order(int what) {
        if (!isEither(what)) {
            return refuse(OTHER);
        }
        int best = mind.leastOrder();
        return what == 0 ? orderInDigits(best) : mind.extentsByOrder(best);
    }

    /** Promise 22. */
    public int steps(int file) {
        if (!isFile(file)) {
            return refuse(NOBODY);
        }
        return mind.stepsOf(file);
    }

    /** Promise 23. */
    public int loses(int file, int k, int what) {
        if (!isFile(file)) {
            return refuse(NOBODY);
        }
        if (k < 0) {
            return refuse(BELOW);
        }
        if (k > TOP) {
            return refuse(ABOVE);
        }
        if (!isEither(what)) {
            return refuse(OTHER);
        }
        return what == 0 ? mind.lossOfOwn(file, k) : mind.lossOfOthers(file, k);
    }

    /** Promise 24. */
    public int safe(int file) {
        if (!isFile(file)) {
            return refuse(NOBODY);
        }
        return mind.leastSafe(file);
    }

    /** Promise 25. */
    public int gather(int n, int what) {
        int why = refusalOfSize(n);
        if (why == 0 && !isEither(what)) {
            why = OTHER;
        }
        if (why < 0) {
            return refuse(why);
        }
        int best = now.leastTakenWindow(n);
        if (best < 0) {
            return NOTHING;
        }
        return what == 0 ? best : now.takenAmong(best, n);
    }

    /** Promise 26. */
    public int first(int a, int b) {
        if (!isFile(a) || !isFile(b) || a == b) {
            return refuse(NOBODY);
        }
        int aAhead = mind.extentsOfPair(a, b);
        int bAhead = mind.extentsOfPair(b, a);
        if (aAhead == bAhead) {
            return NOTHING;
        }
        return aAhead < bAhead ? 0 : 1;
    }

    /** Promise 27. */
    public int two(int a, int b) {
        if (!isFile(a) || !isFile(b) || a == b) {
            return refuse(NOBODY);
        }
        for (int pair = 0; pair < 4; pair++) {
            if (mind.isSteady(a, b, pair / 2, pair % 2)) {
                return 10 * (pair / 2) + pair % 2;
            }
        }
        return NOTHING;
    }

    /** Promise 28. */
    public int most(int file) {
        if (!isFile(file)) {
            return refuse(NOBODY);
        }
        return Math.min(now.holesAmong(file, 0, PAGES), now.roomLeft());
    }

    /** Promise 29. */
    public int larger(int file) {
        if (!isFile(file)) {
            return FAR_INT - refuse(NOBODY);
        }
        return mind.growthBySettling(file);
    }

    /** Promise 30. */
    public long lost(int file, int part) {
        if (!isFile(file)) {
            return FAR_LONG - refuse(NOBODY);
        }
        if (!isEither(part)) {
            return FAR_LONG - refuse(OTHER);
        }
        return partOf(mind.lossOfAllCrashes(file), mind.stepsOf(file) + 1, part);
    }

    /** Promise 31. */
    public long sure(int file, int page, int part) {
        if (!isFile(file) || !isPage(page)) {
            return FAR_LONG - refuse(NOBODY);
        }
        if (!isEither(part)) {
            return FAR_LONG - refuse(OTHER);
        }
        return partOf(mind.crashesThatKeep(file, page), mind.stepsOf(file) + 1, part);
    }

    /** Promise 32. */
    public long mean(int part) {
        if (!isEither(part)) {
            return FAR_LONG - refuse(OTHER);
        }
        return partOf(BLOCKS - now.freeBlocks(), now.extentsInAll(), part);
    }

    /** Promise 33. */
    public int which(int file) {
        if (!isFile(file)) {
            return refuse(NOBODY);
        }
        if (told.many > now.promisedIn(file)) {
            return refuse(STATE);
        }
        int kinds = 0;
        for (int kind = 0; kind < KINDS; kind++) {
            if (mind.comesAsTold(file, kind, told)) {
                kinds |= 1 << kind;
            }
        }
        return kinds;
    }

    /** Promise 34. */
    public int row(int v) {
        if (v < 0) {
            return refuse(BELOW);
        }
        if (v > TOP || told.isFull()) {
            return refuse(ABOVE);
        }
        return told.add(v);
    }

    /** Promise 35. */
    public int judge(int file) {
        if (!isFile(file)) {
            return refuse(NOBODY);
        }
        int wrong = firstWrongPlace(file);
        told.empty();
        return wrong;
    }

    /** Promise 36. */
    public int forged() {
        if (told.many % 2 != 0) {
            return refuse(STATE);
        }
        int wrong = firstWrongRun();
        told.empty();
        return wrong;
    }

    /** Promise 37. */
    public int clear() {
        int had = told.many;
        told.empty();
        return had;
    }

    /** Promise 38. */
    public int lots(int n, int z, int what) {
        if (n < 1) {
            return refuse(BELOW);
        }
        if (n > MOST_LOTS) {
            return refuse(ABOVE);
        }
        if (!isEither(what)) {
            return refuse(OTHER);
        }
        return mind.sumOfLots(n, z, what == 0);
    }

    /** Promise 39. */
    public int image() {
        kept.copyFrom(now);
        isKept = true;
        return now.freeBlocks();
    }

    /** Promise 40. */
    public int on() {
        if (!isKept) {
            return refuse(STATE);
        }
        now.copyFrom(kept);
        return now.freeBlocks();
    }

    /** Promise 41. */
    public int count(int what) {
        if (what >= 11 && what <= 16) {
            return refusals[what - 10];
        }
        switch (what) {
            case 0:
                return now.freeBlocks();
            case 1:
                return now.promisedInAll();
            case 2:
                return now.roomLeft();
            case 3:
                return now.lookedAtRuns().many;
            case 4:
                return now.greatestSize();
            case 5:
                return now.extentsInAll();
            case 6:
                return told.many;
            case 7:
                return text.signs.many;
            default:
                return NOTHING;
        }
    }

    private int refuse(int why) {
        int at = -why;
        if (at >= 0 && at < refusals.length) {
            refusals[at]++;
        }
        return why;
    }

    private int firstWrongPlace(int file) {
        for (int i = 0; i < told.many; i++) {
            int block = now.blockAt(file, i);
            if (told.numberAt(i) != (block < 0 ? TOP : block)) {
                return i;
            }
        }
        return NOTHING;
    }

    private int firstWrongRun() {
        Runs runs = now.lookedAtRuns();
        int pairs = told.many / 2;
        for (int i = 0; i < Math.min(pairs, runs.many); i++) {
            boolean isSo = told.numberAt(2 * i) == runs.startAt(i) && told.numberAt(2 * i + 1) == runs.sizeAt(i);
            if (!isSo) {
                return i;
            }
        }
        return pairs == runs.many ? NOTHING : Math.min(pairs, runs.many);
    }

    private static boolean isFile(int file) {
        return file >= 0 && file < FILES;
    }

    private static boolean isPage(int page) {
        return page >= 0 && page < PAGES;
    }

    private static boolean isBlock(int block) {
        return block >= 0 && block < BLOCKS;
    }

    private static boolean isEither(int what) {
        return what == 0 || what == 1;
    }

    private static int refusalOfSize(int n) {
        if (n < 1) {
            return BELOW;
        }
        return n > BLOCKS ? ABOVE : 0;
    }

    private static int orNothing(int number) {
        return number < 0 ? NOTHING : number;
    }

    private static int depthOf(int extents) {
        if (extents <= 4) {
            return 0;
        }
        return extents <= 16 ? 1 : 2;
    }

    /** The i-th file, from 0 on, of an order that is held as four digits below 4. */
    private static int fileOfOrder(int order, int i) {
        return (order >> (6 - 2 * i)) & 3;
    }

    private static int orderInDigits(int order) {
        int number = 0;
        for (int i = 0; i < FILES; i++) {
            number = 10 * number + fileOfOrder(order, i) + 1;
        }
        return number;
    }

    /** The part above (0) or below (1) the line, in least terms; 0 by 1 if there is nothing. */
    private static long partOf(int above, int below, int part) {
        int common = greatestDivisor(above, below);
        if (above == 0 || common == 0) {
            return part;
        }
        return (part == 0 ? above : below) / common;
    }

    private static int greatestDivisor(int a, int b) {
        int large = a;
        int small = b;
        for (int i = 0; i < 100 && small != 0; i++) {
            int rest = large % small;
            large = small;
            small = rest;
        }
        return large;
    }

    /** Numbers, one behind the other, up to a greatest count of them. */
    private static final class Row {
        private final int[] numbers;
        private int many;

        private Row(int most) {
            numbers = new int[Math.max(0, most)];
            many = 0;
        }

        private boolean isFull() {
            return many >= numbers.length;
        }

        private int add(int number) {
            if (many >= 0 && many < numbers.length) {
                numbers[many] = number;
                many++;
            }
            return many;
        }

        private int numberAt(int i) {
            return i >= 0 && i < many && i < numbers.length ? numbers[i] : NONE;
        }

        private void empty() {
            many = 0;
        }
    }

    /** The free runs by place, as they were when the blocks were last looked at. */
    private static final class Runs {
        private final int[] starts;
        private final int[] sizes;
        private int many;

        private Runs() {
            starts = new int[BLOCKS / 2];
            sizes = new int[BLOCKS / 2];
            many = 0;
        }

        private void lookAt(int[] owners) {
            many = 0;
            int size = 0;
            for (int b = 0; b < owners.length; b++) {
                if (owners[b] == NONE) {
                    size++;
                } else {
                    add(b - size, size);
                    size = 0;
                }
            }
            add(owners.length - size, size);
        }

        private void add(int start, int size) {
            if (size > 0 && many >= 0 && many < starts.length && many < sizes.length) {
                starts[many] = start;
                sizes[many] = size;
                many++;
            }
        }

        private int startAt(int i) {
            return i >= 0 && i < many && i < starts.length ? starts[i] : NONE;
        }

        private int sizeAt(int i) {
            return i >= 0 && i < many && i < sizes.length ? sizes[i] : 0;
        }

        private int leastFor(int n) {
            int best = NONE;
            int least = BLOCKS + 1;
            for (int i = 0; i < many && i < sizes.length; i++) {
                if (sizes[i] >= n && sizes[i] < least) {
                    best = i;
                    least = sizes[i];
                }
            }
            return best;
        }

        private int greatest() {
            int best = NONE;
            int most = 0;
            for (int i = 0; i < many && i < sizes.length; i++) {
                if (sizes[i] > most) {
                    best = i;
                    most = sizes[i];
                }
            }
            return best;
        }

        private int closestTo(int block, int n) {
            int best = NONE;
            int least = BLOCKS;
            for (int i = 0; i < many && i < starts.length && i < sizes.length; i++) {
                int far = starts[i] < block ? block - starts[i] : starts[i] - block;
                if (sizes[i] >= n && far < least) {
                    best = i;
                    least = far;
                }
            }
            return best;
        }

        /** The run that stands at a rank of the order by size; of several of one size by start. */
        private int atRankOfSize(int rank) {
            for (int i = 0; i < many; i++) {
                if (rankOfSize(i) == rank) {
                    return i;
                }
            }
            return NONE;
        }

        private int rankOfSize(int i) {
            int rank = 0;
            for (int j = 0; j < many; j++) {
                if (sizeAt(j) < sizeAt(i) || (sizeAt(j) == sizeAt(i) && j < i)) {
                    rank++;
                }
            }
            return rank;
        }

        /** Where one piece of n pages begins; a run of n blocks or more must be there. */
        private int beginOf(int kind, int goal, int n) {
            int plain = leastFor(n);
            int near = holds(goal, n) ? goal : startAt(plain);
            int stripe = kind == STRIPED && n >= STRIPE ? firstStripe(n) : NONE;
            switch (kind) {
                case NEAR:
                    return near;
                case STRIPED:
                    return stripe < 0 ? near : stripe;
                case GREAT:
                    return startAt(greatest());
                case HIGH:
                    return startAt(plain) + sizeAt(plain) - n;
                case CLOSE:
                    return goal < 0 || near == goal ? near : startAt(closestTo(goal, n));
                default:
                    return startAt(plain);
            }
        }

        private boolean holds(int begin, int n) {
            for (int i = 0; i < many && i < starts.length && i < sizes.length; i++) {
                if (starts[i] <= begin && begin + n <= starts[i] + sizes[i]) {
                    return true;
                }
            }
            return false;
        }

        private int firstStripe(int n) {
            for (int i = 0; i < many && i < starts.length && i < sizes.length; i++) {
                int begin = (starts[i] + STRIPE - 1) / STRIPE * STRIPE;
                if (begin + n <= starts[i] + sizes[i]) {
                    return begin;
                }
            }
            return NONE;
        }
    }

    /** The blocks and the files' pages, as they are or as they would be. */
    private static final class Disk {
        private final int[] owners;
        private final int[] bytes;
        private final int[] kinds;
        private final int[] places;
        private final int[] values;
        private final boolean[] written;
        private final Runs runs;

        private Disk() {
            owners = new int[BLOCKS];
            bytes = new int[BLOCKS];
            kinds = new int[FILES];
            places = new int[FILES * PAGES];
            values = new int[FILES * PAGES];
            written = new boolean[FILES * PAGES];
            runs = new Runs();
            for (int b = 0; b < owners.length; b++) {
                owners[b] = NONE;
            }
            for (int s = 0; s < places.length && s < values.length; s++) {
                places[s] = NONE;
                values[s] = NONE;
            }
        }

        private void copyFrom(Disk other) {
            System.arraycopy(other.owners, 0, owners, 0, BLOCKS);
            System.arraycopy(other.bytes, 0, bytes, 0, BLOCKS);
            System.arraycopy(other.kinds, 0, kinds, 0, FILES);
            System.arraycopy(other.places, 0, places, 0, FILES * PAGES);
            System.arraycopy(other.values, 0, values, 0, FILES * PAGES);
            for (int s = 0; s < written.length && s < other.written.length; s++) {
                written[s] = other.written[s];
            }
        }

        private Runs lookedAtRuns() {
            runs.lookAt(owners);
            return runs;
        }

        private int greatestSize() {
            runs.lookAt(owners);
            return runs.sizeAt(runs.greatest());
        }

        private int kindAt(int f) {
            return f >= 0 && f < kinds.length ? kinds[f] : 0;
        }

        private int ownerAt(int b) {
            return b >= 0 && b < owners.length ? owners[b] : NONE;
        }

        private int byteAt(int b) {
            return b >= 0 && b < bytes.length ? bytes[b] : 0;
        }

        private int blockAt(int f, int p) {
            boolean isThere = f >= 0 && f < FILES && p >= 0 && p < PAGES;
            return isThere ? places[f * PAGES + p] : NONE;
        }

        private int valueAt(int f, int p) {
            boolean isThere = f >= 0 && f < FILES && p >= 0 && p < PAGES;
            return isThere ? values[f * PAGES + p] : NONE;
        }

        private boolean isWritten(int f, int p) {
            boolean isThere = f >= 0 && f < FILES && p >= 0 && p < PAGES;
            return isThere && written[f * PAGES + p];
        }

        private boolean isHole(int f, int p) {
            return blockAt(f, p) < 0 && valueAt(f, p) < 0;
        }

        private boolean isPromised(int f, int p) {
            return blockAt(f, p) < 0 && valueAt(f, p) >= 0;
        }

        private int readAt(int f, int p) {
            if (valueAt(f, p) >= 0) {
                return valueAt(f, p);
            }
            return isWritten(f, p) ? byteAt(blockAt(f, p)) : 0;
        }

        private int freeBlocks() {
            int free = 0;
            for (int b = 0; b < owners.length; b++) {
                if (owners[b] == NONE) {
                    free++;
                }
            }
            return free;
        }

        private int takenAmong(int from, int n) {
            int taken = 0;
            for (int i = 0; i < n; i++) {
                if (ownerAt(from + i) >= 0) {
                    taken++;
                }
            }
            return taken;
        }

        private int leastTakenWindow(int n) {
            int free = freeBlocks();
            int best = NONE;
            int least = BLOCKS;
            for (int from = 0; from + n <= BLOCKS; from++) {
                int taken = takenAmong(from, n);
                int freeOutside = free - (n - taken);
                if (taken <= freeOutside && (best < 0 || taken < least)) {
                    best = from;
                    least = taken;
                }
            }
            return best;
        }

        private int staleBlocks(boolean ofFree) {
            int stale = 0;
            for (int b = 0; b < owners.length; b++) {
                int owner = ownerAt(b);
                boolean isMeant = ofFree ? owner < 0 : owner >= 0 && !isWritten(owner / PAGES, owner % PAGES);
                if (isMeant && byteAt(b) != 0) {
                    stale++;
                }
            }
            return stale;
        }

        private int placedIn(int f) {
            int many = 0;
            for (int p = 0; p < PAGES; p++) {
                if (blockAt(f, p) >= 0) {
                    many++;
                }
            }
            return many;
        }

        private int writtenIn(int f) {
            int many = 0;
            for (int p = 0; p < PAGES; p++) {
                if (isWritten(f, p)) {
                    many++;
                }
            }
            return many;
        }

        private int waitingIn(int f) {
            int many = 0;
            for (int p = 0; p < PAGES; p++) {
                if (valueAt(f, p) >= 0) {
                    many++;
                }
            }
            return many;
        }

        private int promisedIn(int f) {
            int many = 0;
            for (int p = 0; p < PAGES; p++) {
                if (isPromised(f, p)) {
                    many++;
                }
            }
            return many;
        }

        private int promisedInAll() {
            int many = 0;
            for (int s = 0; s < places.length && s < values.length; s++) {
                if (places[s] < 0 && values[s] >= 0) {
                    many++;
                }
            }
            return many;
        }

        private int roomLeft() {
            return Math.max(0, freeBlocks() - promisedInAll());
        }

        private int extentsIn(int f) {
            int many = 0;
            for (int p = 0; p < PAGES; p++) {
                if (blockAt(f, p) >= 0 && !goesOn(f, p)) {
                    many++;
                }
            }
            return many;
        }

        /** Whether a placed page belongs to the extent of the page ahead of it. */
        private boolean goesOn(int f, int p) {
            int before = blockAt(f, p - 1);
            return before >= 0 && blockAt(f, p) == before + 1 && isWritten(f, p) == isWritten(f, p - 1);
        }

        private int extentsInAll() {
            int many = 0;
            for (int f = 0; f < FILES; f++) {
                many += extentsIn(f);
            }
            return many;
        }

        private int holesAmong(int f, int p, int n) {
            int holes = 0;
            for (int i = 0; i < n; i++) {
                if (isHole(f, p + i)) {
                    holes++;
                }
            }
            return holes;
        }

        private void turnKind(int f, int kind) {
            if (isFile(f)) {
                kinds[f] = kind;
            }
        }

        private boolean sayAt(int f, int p, int v) {
            if (!isFile(f) || !isPage(p) || (isHole(f, p) && roomLeft() < 1)) {
                return false;
            }
            values[f * PAGES + p] = v;
            return true;
        }

        /** How many holes among n pages from p on are put; NONE if there is no room for them. */
        private int putHoles(int f, int p, int n) {
            int holes = holesAmong(f, p, n);
            if (roomLeft() < holes) {
                return NONE;
            }
            for (int q = p; q < p + n; q++) {
                putPiece(f, q, holesFrom(f, q, p + n));
            }
            return holes;
        }

        private int holesFrom(int f, int p, int end) {
            int n = 0;
            for (int q = p; q < end && isHole(f, q); q++) {
                n++;
            }
            return n;
        }

        private int promisedFrom(int f, int p) {
            int n = 0;
            for (int q = p; q < PAGES && isPromised(f, q); q++) {
                n++;
            }
            return n;
        }

        /** Puts the first piece of a series of n pages from p on: how many pages it holds. */
        private int putPiece(int f, int p, int n) {
            if (n < 1) {
                return 0;
            }
            runs.lookAt(owners);
            boolean isWhole = runs.leastFor(n) >= 0;
            int size = isWhole ? n : runs.sizeAt(runs.greatest());
            int begin = isWhole ? runs.beginOf(kindAt(f), goalOf(f, p), n) : runs.startAt(runs.greatest());
            for (int i = 0; i < size; i++) {
                place(f, p + i, begin + i);
            }
            return size;
        }

        private int goalOf(int f, int p) {
            int before = blockAt(f, p - 1);
            return before >= 0 && before + 1 < BLOCKS ? before + 1 : NONE;
        }

        private void place(int f, int p, int b) {
            if (isFile(f) && isPage(p) && isBlock(b)) {
                places[f * PAGES + p] = b;
                owners[b] = f * PAGES + p;
            }
        }

        private int punchOut(int f, int p, int n) {
            int freed = 0;
            for (int i = 0; i < n; i++) {
                freed += punchOne(f, p + i);
            }
            return freed;
        }

        private int punchOne(int f, int p) {
            int block = blockAt(f, p);
            if (isFile(f) && isPage(p)) {
                places[f * PAGES + p] = NONE;
                values[f * PAGES + p] = NONE;
                written[f * PAGES + p] = false;
            }
            if (isBlock(block)) {
                owners[block] = NONE;
                return 1;
            }
            return 0;
        }

        /** Makes the first k steps of a flush, all if there are fewer: how many it made. */
        private int flushUpTo(int f, int k) {
            int made = 0;
            for (int p = 0; p < PAGES && made < k; p++) {
                // A piece takes its pages out of the series, so the next one is met at its own first page.
                if (putPiece(f, p, promisedFrom(f, p)) > 0) {
                    made++;
                }
            }
            for (int p = 0; p < PAGES && made < k; p++) {
                if (valueAt(f, p) >= 0) {
                    made += writeDown(f, p, k - made);
                }
            }
            return made;
        }

        /** A waiting page's two steps, or the first of them alone: how many it made. */
        private int writeDown(int f, int p, int left) {
            int block = blockAt(f, p);
            if (isBlock(block)) {
                bytes[block] = valueAt(f, p);
            }
            if (left < 2) {
                return 1;
            }
            if (isFile(f) && isPage(p)) {
                written[f * PAGES + p] = true;
                values[f * PAGES + p] = NONE;
            }
            return 2;
        }

        /** What a crash does behind the steps that were made: how many pages waited still. */
        private int dropWaiting() {
            int waiting = 0;
            for (int s = 0; s < values.length; s++) {
                if (values[s] >= 0) {
                    waiting++;
                }
                values[s] = NONE;
            }
            return waiting;
        }

        /** The block of its first placed page behind it; NONE if the file can not be settled. */
        private int settleDown(int f) {
            int placed = placedIn(f);
            if (placed == 0) {
                return NONE;
            }
            runs.lookAt(owners);
            int start = runs.startAt(runs.leastFor(placed));
            int next = start;
            for (int p = 0; p < PAGES && start >= 0; p++) {
                if (blockAt(f, p) >= 0) {
                    move(f, p, next);
                    next++;
                }
            }
            return start;
        }

        private void move(int f, int p, int to) {
            int from = blockAt(f, p);
            if (isBlock(from) && isBlock(to)) {
                bytes[to] = bytes[from];
                owners[from] = NONE;
                place(f, p, to);
            }
        }
    }

    /** What would be: every question is played on the second disk, from now on. */
    private static final class Mind {
        private final Disk now;
        private final Disk trial;
        private int seed;

        private Mind(Disk now, Disk trial) {
            this.now = now;
            this.trial = trial;
            seed = 0;
        }

        private void flushByKind(int f, int kind) {
            trial.copyFrom(now);
            trial.turnKind(f, kind);
            trial.flushUpTo(f, ALL_STEPS);
        }

        private int extentsByKind(int f, int kind) {
            flushByKind(f, kind);
            return trial.extentsIn(f);
        }

        private int leastKind(int f) {
            int best = NONE;
            int least = PAGES + 1;
            for (int kind = 0; kind < KINDS; kind++) {
                flushByKind(f, kind);
                if (trial.extentsIn(f) < least) {
                    best = kind;
                    least = trial.extentsIn(f);
                }
            }
            return best;
        }

        /** Of the orders that stand as four digits below 4, in their own order: the first of the least. */
        private int leastOrder() {
            int best = NONE;
            int least = 0;
            for (int order = 0; order < 256; order++) {
                int extents = isOrder(order) ? extentsByOrder(order) : NONE;
                if (extents >= 0 && (best < 0 || extents < least)) {
                    best = order;
                    least = extents;
                }
            }
            return best;
        }

        private static boolean isOrder(int order) {
            int met = 0;
            for (int i = 0; i < FILES; i++) {
                met |= 1 << fileOfOrder(order, i);
            }
            return met == (1 << FILES) - 1;
        }

        private int extentsByOrder(int order) {
            trial.copyFrom(now);
            for (int i = 0; i < FILES; i++) {
                trial.flushUpTo(fileOfOrder(order, i), ALL_STEPS);
            }
            return trial.extentsInAll();
        }

        private int stepsOf(int f) {
            trial.copyFrom(now);
            return trial.flushUpTo(f, ALL_STEPS);
        }

        private void crashBehind(int f, int k) {
            trial.copyFrom(now);
            trial.flushUpTo(f, k);
            trial.dropWaiting();
        }

        private int lossOfOwn(int f, int k) {
            crashBehind(f, k);
            return otherwiseIn(f);
        }

        private int lossOfOthers(int f, int k) {
            crashBehind(f, k);
            int lost = 0;
            for (int g = 0; g < FILES; g++) {
                if (g != f) {
                    lost += otherwiseIn(g);
                }
            }
            return lost;
        }

        private int otherwiseIn(int f) {
            int otherwise = 0;
            for (int p = 0; p < PAGES; p++) {
                if (now.readAt(f, p) != trial.readAt(f, p)) {
                    otherwise++;
                }
            }
            return otherwise;
        }

        private int leastSafe(int f) {
            int steps = stepsOf(f);
            for (int k = 0; k < steps; k++) {
                crashBehind(f, k);
                if (otherwiseIn(f) == 0) {
                    return k;
                }
            }
            return steps;
        }

        private int lossOfAllCrashes(int f) {
            int steps = stepsOf(f);
            int lost = 0;
            for (int k = 0; k <= steps; k++) {
                crashBehind(f, k);
                lost += otherwiseIn(f);
            }
            return lost;
        }

        private int crashesThatKeep(int f, int p) {
            int steps = stepsOf(f);
            int kept = 0;
            for (int k = 0; k <= steps; k++) {
                crashBehind(f, k);
                if (now.readAt(f, p) == trial.readAt(f, p)) {
                    kept++;
                }
            }
            return kept;
        }

        private int extentsOfPair(int ahead, int behind) {
            trial.copyFrom(now);
            trial.flushUpTo(ahead, ALL_STEPS);
            trial.flushUpTo(behind, ALL_STEPS);
            return trial.extentsIn(ahead) + trial.extentsIn(behind);
        }

        /** Whether neither of the two has fewer extents by another choice of its own alone. */
        private boolean isSteady(int a, int b, int byA, int byB) {
            playPair(a, b, byA, byB);
            int ofA = trial.extentsIn(a);
            int ofB = trial.extentsIn(b);
            playPair(a, b, 1 - byA, byB);
            if (trial.extentsIn(a) < ofA) {
                return false;
            }
            playPair(a, b, byA, 1 - byB);
            return trial.extentsIn(b) >= ofB;
        }

        private void playPair(int a, int b, int byA, int byB) {
            trial.copyFrom(now);
            if (byA == 1) {
                trial.flushUpTo(a, ALL_STEPS);
            }
            if (byB == 1) {
                trial.flushUpTo(b, ALL_STEPS);
            }
            trial.flushUpTo(b, ALL_STEPS);
            trial.flushUpTo(a, ALL_STEPS);
        }

        private int growthBySettling(int f) {
            trial.copyFrom(now);
            trial.settleDown(f);
            return trial.greatestSize() - now.greatestSize();
        }

        private boolean comesAsTold(int f, int kind, Row told) {
            flushByKind(f, kind);
            int at = 0;
            for (int p = 0; p < PAGES && at < told.many; p++) {
                if (now.isPromised(f, p)) {
                    if (trial.blockAt(f, p) != told.numberAt(at)) {
                        return false;
                    }
                    at++;
                }
            }
            return true;
        }

        /** The extents, or else the free runs, of n volumes together that are drawn one behind the other. */
        private int sumOfLots(int n, int z, boolean ofExtents) {
            seed = z;
            int sum = 0;
            for (int i = 0; i < n; i++) {
                playLot();
                sum += ofExtents ? trial.extentsInAll() : trial.lookedAtRuns().many;
            }
            return sum;
        }

        private void playLot() {
            trial.copyFrom(now);
            for (int i = 0; i < 8; i++) {
                int f = drawBelow(FILES);
                int p = drawBelow(PAGES);
                int v = drawBelow(TOP + 1);
                trial.sayAt(f, p, v);
            }
            for (int f = 0; f < FILES; f++) {
                trial.flushUpTo(f, ALL_STEPS);
            }
        }

        private int drawBelow(int m) {
            seed = seed * 1664525 + 1013904223;
            return m > 0 ? (seed & 0x7fffffff) / 256 % m : 0;
        }
    }

    /** The letters of a volume that is told, and what they say. */
    private static final class Text {
        private final Row signs;

        private Text() {
            signs = new Row(MOST_LETTERS);
        }

        /** The fault of kind 1; 0 without it. */
        private int faultOfForm() {
            int begin = 0;
            for (int i = 0; i < signs.many; i++) {
                if (!canGoOn(begin, i)) {
                    return -1000 - i;
                }
                if (signs.numberAt(i) == ';') {
                    begin = i + 1;
                }
            }
            return signs.many == 0 || begin < signs.many ? -1000 - signs.many : 0;
        }

        /** Whether the letter at a place fits into the statement that begins at another one. */
        private boolean canGoOn(int begin, int place) {
            int head = signs.numberAt(begin);
            int sign = signs.numberAt(place);
            int digits = digitsBehind(head);
            int at = place - begin;
            if (at == 0) {
                return digits > 0;
            }
            if (at <= digits) {
                return sign >= '0' && sign <= '9';
            }
            if (head == 'k' && at == digits + 1) {
                return kindOf(sign) >= 0;
            }
            return sign == ';';
        }

        /** How many digits follow the first letter of a statement; 0 if no statement begins so. */
        private static int digitsBehind(int head) {
            switch (head) {
                case 'w':
                case 'a':
                case 'p':
                    return 5;
                case 'c':
                    return 3;
                case 'f':
                case 's':
                case 'k':
                    return 1;
                default:
                    return 0;
            }
        }

        private static int kindOf(int sign) {
            switch (sign) {
                case 'p':
                    return 0;
                case 'n':
                    return NEAR;
                case 's':
                    return STRIPED;
                case 'g':
                    return GREAT;
                case 'h':
                    return HIGH;
                case 'c':
                    return CLOSE;
                default:
                    return NONE;
            }
        }

        /** Plays the statements, whose form is right, on a disk: how many, or the fault of kind 2. */
        private int playOn(Disk disk) {
            int begin = 0;
            int statements = 0;
            for (int i = 0; i < signs.many; i++) {
                if (signs.numberAt(i) == ';') {
                    if (!plays(disk, begin)) {
                        return -2000 - begin;
                    }
                    statements++;
                    begin = i + 1;
                }
            }
            return statements;
        }

        /** Plays the statement that begins at a place, if it is as it must be. */
        private boolean plays(Disk disk, int begin) {
            int f = digitAt(begin + 1);
            int x = 10 * digitAt(begin + 2) + digitAt(begin + 3);
            int y = 10 * digitAt(begin + 4) + digitAt(begin + 5);
            if (!isFile(f)) {
                return false;
            }
            switch (signs.numberAt(begin)) {
                case 'w':
                    return disk.sayAt(f, x, y);
                case 'a':
                    return isSeries(x, y) && disk.putHoles(f, x, y) >= 0;
                case 'p':
                    return isSeries(x, y) && disk.punchOut(f, x, y) >= 0;
                case 'f':
                    return disk.flushUpTo(f, ALL_STEPS) >= 0;
                case 's':
                    return disk.settleDown(f) >= 0;
                case 'c':
                    disk.flushUpTo(f, x);
                    return disk.dropWaiting() >= 0;
                default:
                    disk.turnKind(f, kindOf(signs.numberAt(begin + 2)));
                    return true;
            }
        }

        private static boolean isSeries(int p, int n) {
            return isPage(p) && n >= 1 && n <= PAGES - p;
        }

        private int digitAt(int place) {
            return signs.numberAt(place) - '0';
        }
    }
}
