/** Compares answers with those that are due, and ends a test with exit code 1 if one differs. */
final class Checks {
    private static int wrong = 0;
    private static int made = 0;
    private static String sentence = "";

    private Checks() {
    }

    /** The words of the document by which the answers from now on are due; told with each that is wrong. */
    static void sentence(String words) {
        sentence = "[" + words + "] ";
    }

    static void due(String call, long got, long want) {
        made++;
        if (got != want) {
            wrong++;
            System.out.println(sentence + call + " answered " + got + ", due is " + want);
        }
    }

    static void due(String call, boolean got, boolean want) {
        due(call, got ? 1L : 0L, want ? 1L : 0L);
    }

    static boolean anyWrong() {
        return wrong != 0;
    }

    static void end() {
        System.out.println(wrong == 0 ? made + " answers are as due" : wrong + " answers are not as due");
        if (wrong != 0) {
            System.exit(1);
        }
    }

    /** A store with volume 0, whose places 0 .. n - 1 have the values 100, 101, .. in blocks 0, 1, .. */
    static CowStore filled(int n) {
        CowStore s = new CowStore();
        s.create();
        for (int p = 0; p < n; p++) {
            s.write(0, p, 100 + p);
        }
        return s;
    }

    /** A store without a FREE block: 64 in volume 0, 16 in volume 1. */
    static CowStore full() {
        CowStore s = filled(64);
        s.create();
        for (int p = 0; p < 16; p++) {
            s.write(1, p, 200 + p);
        }
        return s;
    }

    /** Makes both copies of each of the blocks BAD. */
    static void breakBlocks(CowStore s, int... blocks) {
        for (int block : blocks) {
            s.spoil(0, block);
            s.spoil(1, block);
        }
    }
}
