/** Volumes to begin with, made by calls alone, and what is looked at in many of them. */
final class Given {
    private Given() {
    }

    /** All blocks are taken but those of these runs (start, size, ..): by files 1, 2 and 3, none of them written. */
    static TwinTreeVolume free(int... runs) {
        TwinTreeVolume x = new TwinTreeVolume();
        x.ahead(3, 0, 24);
        x.ahead(2, 0, 24);
        x.ahead(1, 0, 16);
        open(x, runs);
        return x;
    }

    /** Page 0 of file 0 is placed at a block, and besides just these runs are free. */
    static TwinTreeVolume at(int block, int... runs) {
        TwinTreeVolume x = free(block, 1);
        x.ahead(0, 0, 1);
        open(x, runs);
        return x;
    }

    /** Free are n blocks alone, none beside another: 0, 2, 4, .. */
    static TwinTreeVolume lone(int n) {
        TwinTreeVolume x = free();
        for (int i = 0; i < n; i++) {
            open(x, 2 * i, 1);
        }
        return x;
    }

    /**
     * Free: 0 (4), 10 (3). File 0, GREAT, takes three of the four if it is flushed ahead of file 1, and then the four
     * pages of file 1 find no run.
     */
    static TwinTreeVolume rivals() {
        TwinTreeVolume x = free(0, 4, 10, 3);
        x.kind(0, 3);
        says(x, 0, 0, 1, 2, 3);
        says(x, 1, 16, 1, 2, 3, 4);
        return x;
    }

    static void open(TwinTreeVolume x, int... runs) {
        for (int i = 0; i + 1 < runs.length; i += 2) {
            for (int b = runs[i]; b < runs[i] + runs[i + 1]; b++) {
                int whose = x.whose(b, 0);
                x.punch(whose / 100, whose % 100, 1);
            }
        }
    }

    /** Pages from one on wait with these values. */
    static void says(TwinTreeVolume x, int file, int page, int... values) {
        for (int i = 0; i < values.length; i++) {
            x.says(file, page + i, values[i]);
        }
    }

    /** Looks whether pages from one on are placed at these blocks (-9: not). */
    static void places(String what, TwinTreeVolume x, int file, int page, int... blocks) {
        for (int i = 0; i < blocks.length; i++) {
            Checks.due(what + ": block of " + file + ", " + (page + i), x.page(file, page + i, 0), blocks[i]);
        }
    }

    /** Looks whether just these runs are free (start, size, ..). */
    static void runs(String what, TwinTreeVolume x, int... runs) {
        Checks.due(what + ": free runs", x.count(3), runs.length / 2);
        for (int i = 0; i + 1 < runs.length; i += 2) {
            Checks.due(what + ": free run " + i / 2, x.byPlace(i / 2, 0), 100 * runs[i] + runs[i + 1]);
        }
    }

    /** Block, whether it is written, value that waits. */
    static void page(String what, TwinTreeVolume x, int file, int page, int block, int written, int waits) {
        Checks.due(what + ": block", x.page(file, page, 0), block);
        Checks.due(what + ": written", x.page(file, page, 1), written);
        Checks.due(what + ": waits", x.page(file, page, 2), waits);
    }
}
