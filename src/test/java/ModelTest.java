import java.util.Random;

/** Promises 1 to 22: long mixed runs, the same each time, with the answers of PlainStore as those that are due. */
public final class ModelTest {
    private static final int RUNS = 1500;
    private static final int CALLS = 512;
    private static final int[] ODD = {-1, -2, 6, 64, 65, 80, 81, Integer.MIN_VALUE, Integer.MAX_VALUE};

    private final Random random;
    private final CowStore store = new CowStore();
    private final PlainStore plain = new PlainStore();
    private final String run;
    private final int placesUsed;
    private final int mostVolumes;

    private ModelTest(int seed) {
        random = new Random(seed);
        run = "run " + seed + ": ";
        placesUsed = seed % 3 == 0 ? 8 : 64;
        mostVolumes = 2 + seed % 5;
    }

    public static void main(String[] args) {
        for (int seed = 0; seed < RUNS && !Checks.anyWrong(); seed++) {
            ModelTest test = new ModelTest(seed);
            for (int i = 0; i < CALLS && !Checks.anyWrong(); i++) {
                test.call(i);
            }
        }
        Checks.end();
    }

    private int pick(int bound) {
        return random.nextInt(30) == 0 ? ODD[random.nextInt(ODD.length)] : random.nextInt(bound);
    }

    private int volume() {
        return pick(mostVolumes);
    }

    private int place() {
        return pick(placesUsed);
    }

    private int value() {
        return random.nextBoolean() ? random.nextInt() : random.nextInt(5);
    }

    private void call(int i) {
        int kind = i < 2 ? 0 : random.nextInt(100);
        if (kind < 60) {
            change(kind);
        } else {
            ask(kind);
        }
    }

    private void change(int kind) {
        if (kind < 3) {
            due("create()", store.create(), plain.create());
        } else if (kind < 6) {
            int v = volume();
            boolean frozen = random.nextInt(3) == 0;
            due("snapshot(" + v + ", " + frozen + ")", store.snapshot(v, frozen), plain.snapshot(v, frozen));
        } else if (kind < 7) {
            int v = volume();
            due("destroy(" + v + ")", store.destroy(v), plain.destroy(v));
        } else if (kind < 35) {
            int v = volume();
            int p = place();
            int x = value();
            due("write(" + v + ", " + p + ", " + x + ")", store.write(v, p, x), plain.write(v, p, x));
        } else if (kind < 38) {
            int v = volume();
            int p = place();
            due("punch(" + v + ", " + p + ")", store.punch(v, p), plain.punch(v, p));
        } else if (kind < 42) {
            share();
        } else if (kind < 48) {
            int d = pick(2);
            int b = pick(80);
            Checks.due(run + "spoil(" + d + ", " + b + ")", store.spoil(d, b), plain.spoil(d, b));
        } else if (kind < 49) {
            int d = pick(2);
            due("lose(" + d + ")", store.lose(d), plain.lose(d));
        } else if (kind < 51) {
            int d = pick(2);
            Checks.due(run + "replace(" + d + ")", store.replace(d), plain.replace(d));
        } else if (kind < 54) {
            int n = pick(81);
            due("scrub(" + n + ")", store.scrub(n), plain.scrub(n));
        } else if (kind < 57) {
            int v = volume();
            int w = random.nextInt(3) == 0 ? -1 : volume();
            due("send(" + v + ", " + w + ")", store.send(v, w), plain.send(v, w));
        } else {
            int v = volume();
            due("receive(" + v + ")", store.receive(v), plain.receive(v));
        }
    }

    private void share() {
        int v = volume();
        int w = volume();
        int n = random.nextBoolean() ? pick(8) : pick(65);
        int room = n < 0 || n > 63 ? 1 : 65 - n;
        int p = pick(room);
        int q = pick(room);
        due("share(" + v + ", " + p + ", " + w + ", " + q + ", " + n + ")",
            store.share(v, p, w, q, n), plain.share(v, p, w, q, n));
    }

    private void ask(int kind) {
        int v = volume();
        int w = volume();
        int p = place();
        if (kind < 66) {
            due("read(" + v + ", " + p + ")", store.read(v, p), plain.read(v, p));
        } else if (kind < 72) {
            due("blockAt(" + v + ", " + p + ")", store.blockAt(v, p), plain.blockAt(v, p));
        } else if (kind < 80) {
            int what = pick(6);
            due("count(" + what + ")", store.count(what), plain.count(what));
        } else if (kind < 84) {
            int b = pick(80);
            due("holders(" + b + ")", store.holders(b), plain.holders(b));
        } else if (kind < 88) {
            due("own(" + v + ")", store.own(v), plain.own(v));
        } else if (kind < 92) {
            due("differ(" + v + ", " + w + ")", store.differ(v, w), plain.differ(v, w));
        } else if (kind < 96) {
            int k = pick(64);
            due("difference(" + v + ", " + w + ", " + k + ")", store.difference(v, w, k), plain.difference(v, w, k));
        } else {
            int k = pick(64);
            due("entry(" + k + ")", store.entry(k), plain.entry(k));
        }
    }

    private void due(String call, long got, long want) {
        Checks.due(run + call, got, want);
    }
}
