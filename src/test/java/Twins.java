import java.util.List;
import java.util.function.Consumer;
import java.util.function.Function;
import java.util.function.Supplier;

/**
 * Tells whether calls left a store as it was: one store gets them and its twin does not, and from then on both must
 * answer alike. The questions change a store (or are many), so each list of them has a pair of twins of its own.
 */
final class Twins {
    private static final List<Function<CowStore, long[]>> QUESTIONS =
        List.of(Twins::places, Twins::values, Twins::copiesAndStream, Twins::volumes);

    private Twins() {
    }

    static void unchanged(String calls, Supplier<CowStore> maker, Consumer<CowStore> refused) {
        for (int i = 0; i < QUESTIONS.size(); i++) {
            CowStore store = maker.get();
            refused.accept(store);
            long[] got = QUESTIONS.get(i).apply(store);
            long[] want = QUESTIONS.get(i).apply(maker.get());
            for (int k = 0; k < want.length; k++) {
                Checks.due(calls + " changes nothing, question " + i + "." + k, got[k], want[k]);
            }
        }
    }

    /** All is in use here that a refused call could spoil, and there are FREE blocks and volumes that are not there. */
    static CowStore busy() {
        CowStore s = Checks.filled(6);
        s.snapshot(0, true);
        s.write(0, 1, -7);
        s.punch(0, 2);
        s.write(0, 63, 8);
        s.snapshot(0, false);
        s.share(0, 0, 2, 30, 4);
        s.send(0, 1);
        s.scrub(7);
        s.spoil(0, 3);
        s.spoil(1, 4);
        Checks.breakBlocks(s, 5);
        s.lose(1);
        return s;
    }

    /** All six volumes are there, volume 5 FROZEN, and no block is FREE. */
    static CowStore crowded() {
        CowStore s = Checks.full();
        s.create();
        s.snapshot(1, false);
        s.create();
        s.snapshot(0, true);
        s.send(1, -1);
        s.spoil(0, 3);
        s.scrub(2);
        return s;
    }

    private static long[] places(CowStore s) {
        long[] answers = new long[6 * 64];
        for (int i = 0; i < answers.length; i++) {
            answers[i] = s.blockAt(i / 64, i % 64);
        }
        return answers;
    }

    private static long[] values(CowStore s) {
        long[] answers = new long[6 * 64];
        for (int i = 0; i < answers.length; i++) {
            answers[i] = s.read(i / 64, i % 64);
        }
        return answers;
    }

    private static long[] copiesAndStream(CowStore s) {
        long[] answers = new long[6 + 65 + 160 + 2];
        int n = 0;
        for (int what = 0; what < 6; what++) {
            answers[n++] = s.count(what);
        }
        for (int k = 0; k < 65; k++) {
            answers[n++] = s.entry(k);
        }
        for (int disk = 0; disk < 2; disk++) {
            for (int block = 0; block < 80; block++) {
                answers[n++] = s.spoil(disk, block) ? 1 : 0;
            }
        }
        answers[n++] = s.replace(0) ? 1 : 0;
        answers[n++] = s.replace(1) ? 1 : 0;
        return answers;
    }

    private static long[] volumes(CowStore s) {
        long[] answers = new long[80 + 6 + 6 + 6];
        int n = 0;
        for (int block = 0; block < 80; block++) {
            answers[n++] = s.holders(block);
        }
        for (int v = 0; v < 6; v++) {
            answers[n++] = s.own(v);
        }
        for (int v = 0; v < 6; v++) {
            answers[n++] = s.write(v, 9, 1);
        }
        for (int v = 0; v < 6; v++) {
            answers[n++] = s.create();
        }
        return answers;
    }
}
