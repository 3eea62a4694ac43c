/** The boundary cases that promises 5 to 9 name, each sentence by itself. */
public final class PlacesEdgesTest {
    private static final int LEAST = Integer.MIN_VALUE;
    private static final int GREATEST = Integer.MAX_VALUE;

    public static void main(String[] args) {
        promise5BadIfNotThere();
        promise5BadIfNotWritable();
        promise5BadIfNoSuchPlace();
        promise5Full();
        promise5BadThoughItIsFull();
        promise6AnEmptyPlace();
        promise6ABlockThatOthersHave();
        promise6ABlockThatNoOtherHas();
        promise6WhenNoBlockIsFree();
        promise6BadLikewise();
        promise7NoPlaces();
        promise7AllPlaces();
        promise7UpToTheLastPlace();
        promise7WhatWasHadBeforeThis();
        promise7EmptyPlaces();
        promise7SomethingElse();
        promise7WhenNoBlockIsFree();
        promise7BlocksBecomeFree();
        promise7BadIfVIsNotThere();
        promise7BadIfWIsNotWritable();
        promise7BadIfNIsOutside();
        promise7BadIfPIsBelowOrAbove();
        promise7BadIfQIsBelowOrAbove();
        promise8Broken();
        promise8NoneIfEmpty();
        promise8NoneIfNotThere();
        promise9FirstAndLast();
        promise9IfEmpty();
        promise9IfNotThere();
        promise9ChangesNothing();
        Checks.end();
    }

    private static void promise5BadIfNotThere() {
        Checks.sentence("5: BAD if v is not there");
        for (int v : new int[] {3, 5, -1, 6, LEAST, GREATEST}) {
            Checks.due("write(" + v + ", 0, 1)", Twins.busy().write(v, 0, 1), CowStore.BAD);
            Twins.unchanged("write(" + v + ", 0, 1)", Twins::busy, s -> s.write(v, 0, 1));
        }
    }

    private static void promise5BadIfNotWritable() {
        Checks.sentence("5: BAD if v is .. not WRITABLE");
        Checks.due("write(1, 0, 1)", Twins.busy().write(1, 0, 1), CowStore.BAD);
        Checks.due("at an EMPTY place: write(1, 63, 1)", Twins.busy().write(1, 63, 1), CowStore.BAD);
        Twins.unchanged("write(1, 0, 1)", Twins::busy, s -> s.write(1, 0, 1));
        Twins.unchanged("write(1, 63, 1)", Twins::busy, s -> s.write(1, 63, 1));
    }

    private static void promise5BadIfNoSuchPlace() {
        Checks.sentence("5: BAD if .. there is no such place");
        for (int p : new int[] {-1, 64, LEAST, GREATEST}) {
            Checks.due("write(0, " + p + ", 1)", Twins.busy().write(0, p, 1), CowStore.BAD);
            Twins.unchanged("write(0, " + p + ", 1)", Twins::busy, s -> s.write(0, p, 1));
        }
    }

    private static void promise5Full() {
        Checks.sentence("5: FULL");
        CowStore s = Checks.full();
        for (int p = 0; p < 64; p++) {
            Checks.due("write(0, " + p + ", 1)", s.write(0, p, 1), CowStore.FULL);
            Checks.due("write(1, " + p + ", 1)", s.write(1, p, 1), CowStore.FULL);
        }
        Checks.due("count(0)", s.count(0), 80);
        Checks.due("read(0, 63)", s.read(0, 63), 163);
        Checks.due("read(1, 16)", s.read(1, 16), CowStore.NONE);
    }

    private static void promise5BadThoughItIsFull() {
        Checks.sentence("5: BAD if ..; FULL");
        CowStore s = Twins.crowded();
        Checks.due("write(0, -1, 1)", s.write(0, -1, 1), CowStore.BAD);
        Checks.due("write(0, 64, 1)", s.write(0, 64, 1), CowStore.BAD);
        Checks.due("write(5, 0, 1)", s.write(5, 0, 1), CowStore.BAD);
        Checks.due("write(6, 0, 1)", s.write(6, 0, 1), CowStore.BAD);
        s.destroy(2);
        Checks.due("write(2, 0, 1)", s.write(2, 0, 1), CowStore.BAD);
    }

    private static void promise6AnEmptyPlace() {
        Checks.sentence("6: 1 if a block became FREE, else 0");
        CowStore s = Twins.busy();
        Checks.due("punch(0, 2)", s.punch(0, 2), 0);
        Checks.due("punch(0, 40)", s.punch(0, 40), 0);
        Twins.unchanged("punch(0, 2)", Twins::busy, t -> t.punch(0, 2));
    }

    private static void promise6ABlockThatOthersHave() {
        Checks.sentence("6: 1 if a block became FREE, else 0");
        CowStore s = Checks.filled(2);
        s.snapshot(0, true);
        s.write(0, 1, 1);
        s.share(0, 1, 0, 5, 1);
        Checks.due("a FROZEN volume has it: punch(0, 0)", s.punch(0, 0), 0);
        Checks.due("another place has it: punch(0, 5)", s.punch(0, 5), 0);
        Checks.due("EMPTY: blockAt(0, 0)", s.blockAt(0, 0), -1);
        Checks.due("EMPTY: blockAt(0, 5)", s.blockAt(0, 5), -1);
        Checks.due("read(1, 0)", s.read(1, 0), 100);
        Checks.due("read(0, 1)", s.read(0, 1), 1);
    }

    private static void promise6ABlockThatNoOtherHas() {
        Checks.sentence("6: 1 if a block became FREE, else 0");
        CowStore s = Checks.filled(64);
        Checks.due("punch(0, 0)", s.punch(0, 0), 1);
        Checks.due("again: punch(0, 0)", s.punch(0, 0), 0);
        Checks.due("punch(0, 63)", s.punch(0, 63), 1);
        Checks.due("again: punch(0, 63)", s.punch(0, 63), 0);
        Checks.due("count(0)", s.count(0), 62);
        s.lose(0);
        s.lose(1);
        Checks.due("BROKEN: punch(0, 5)", s.punch(0, 5), 1);
    }

    private static void promise6WhenNoBlockIsFree() {
        Checks.sentence("6: Place p of volume v is EMPTY from now on");
        CowStore s = Checks.full();
        Checks.due("punch(1, 15)", s.punch(1, 15), 1);
        Checks.due("count(0)", s.count(0), 79);
        Checks.due("write(1, 15, 1)", s.write(1, 15, 1), 79);
    }

    private static void promise6BadLikewise() {
        Checks.sentence("6: BAD likewise");
        for (int v : new int[] {1, 3, 5, -1, 6, LEAST, GREATEST}) {
            Checks.due("punch(" + v + ", 0)", Twins.busy().punch(v, 0), CowStore.BAD);
            Twins.unchanged("punch(" + v + ", 0)", Twins::busy, s -> s.punch(v, 0));
        }
        Checks.due("an EMPTY place of a FROZEN one: punch(1, 63)", Twins.busy().punch(1, 63), CowStore.BAD);
        for (int p : new int[] {-1, 64, LEAST, GREATEST}) {
            Checks.due("punch(0, " + p + ")", Twins.crowded().punch(0, p), CowStore.BAD);
            Checks.due("punch(1, " + p + ")", Twins.crowded().punch(1, p), CowStore.BAD);
            Twins.unchanged("punch(1, " + p + ")", Twins::crowded, s -> s.punch(1, p));
        }
    }

    private static void promise7NoPlaces() {
        Checks.sentence("7: n of them (0..64)");
        for (int p : new int[] {0, 1, 63, 64}) {
            Checks.due("share(0, " + p + ", 2, 0, 0)", Twins.busy().share(0, p, 2, 0, 0), 0);
            Checks.due("share(0, 0, 2, " + p + ", 0)", Twins.busy().share(0, 0, 2, p, 0), 0);
            Twins.unchanged("share(0, " + p + ", 2, 0, 0)", Twins::busy, s -> s.share(0, p, 2, 0, 0));
        }
    }

    private static void promise7AllPlaces() {
        Checks.sentence("7: n of them (0..64)");
        CowStore s = Checks.filled(64);
        s.create();
        Checks.due("share(0, 0, 1, 0, 64)", s.share(0, 0, 1, 0, 64), 64);
        for (int p = 0; p < 64; p++) {
            Checks.due("blockAt(1, " + p + ")", s.blockAt(1, p), p);
        }
        Checks.due("holders(63)", s.holders(63), 2);
    }

    private static void promise7UpToTheLastPlace() {
        Checks.sentence("7: Places q, q + 1, .. get what places p, p + 1, .. had");
        CowStore s = Checks.filled(64);
        s.create();
        Checks.due("p is 64 - n: share(0, 60, 1, 0, 4)", s.share(0, 60, 1, 0, 4), 4);
        Checks.due("q is 64 - n: share(0, 0, 1, 60, 4)", s.share(0, 0, 1, 60, 4), 4);
        Checks.due("blockAt(1, 0)", s.blockAt(1, 0), 60);
        Checks.due("blockAt(1, 3)", s.blockAt(1, 3), 63);
        Checks.due("blockAt(1, 4)", s.blockAt(1, 4), -1);
        Checks.due("blockAt(1, 59)", s.blockAt(1, 59), -1);
        Checks.due("blockAt(1, 60)", s.blockAt(1, 60), 0);
        Checks.due("blockAt(1, 63)", s.blockAt(1, 63), 3);
        Checks.due("both: share(0, 63, 1, 63, 1)", s.share(0, 63, 1, 63, 1), 1);
        Checks.due("blockAt(1, 63)", s.blockAt(1, 63), 63);
    }

    private static void promise7WhatWasHadBeforeThis() {
        Checks.sentence("7: what places p, p + 1, .. of volume v had before this");
        CowStore up = Checks.filled(64);
        Checks.due("share(0, 0, 0, 1, 63)", up.share(0, 0, 0, 1, 63), 63);
        CowStore down = Checks.filled(64);
        Checks.due("share(0, 1, 0, 0, 63)", down.share(0, 1, 0, 0, 63), 63);
        for (int p = 0; p < 64; p++) {
            Checks.due("up: blockAt(0, " + p + ")", up.blockAt(0, p), p == 0 ? 0 : p - 1);
            Checks.due("down: blockAt(0, " + p + ")", down.blockAt(0, p), p == 63 ? 63 : p + 1);
        }
        Checks.due("up: the last one is FREE: holders(63)", up.holders(63), 0);
        Checks.due("up: holders(0)", up.holders(0), 2);
        Checks.due("down: the first one is FREE: holders(0)", down.holders(0), 0);
        Checks.due("down: holders(63)", down.holders(63), 2);
        Checks.due("onto themselves: share(0, 0, 0, 0, 64)", up.share(0, 0, 0, 0, 64), 0);
        Checks.due("read(0, 63)", up.read(0, 63), 162);
        Checks.due("holders(0)", up.holders(0), 2);
    }

    private static void promise7EmptyPlaces() {
        Checks.sentence("7: get what places p, p + 1, .. of volume v had");
        CowStore s = Checks.filled(3);
        s.create();
        Checks.due("all EMPTY onto blocks: share(1, 0, 0, 0, 64)", s.share(1, 0, 0, 0, 64), 3);
        Checks.due("blockAt(0, 0)", s.blockAt(0, 0), -1);
        Checks.due("count(0)", s.count(0), 0);
        Checks.due("EMPTY onto EMPTY: share(1, 0, 0, 0, 64)", s.share(1, 0, 0, 0, 64), 0);
    }

    private static void promise7SomethingElse() {
        Checks.sentence("7: How many of them had something else");
        CowStore s = Checks.filled(4);
        s.snapshot(0, false);
        s.punch(0, 1);
        s.punch(1, 2);
        s.write(1, 3, 103);
        // 0: the same block, 1: EMPTY for a block, 2: a block for EMPTY, 3: the same value in another block, 4: EMPTY.
        Checks.due("share(0, 0, 1, 0, 1)", s.share(0, 0, 1, 0, 1), 0);
        Checks.due("share(0, 4, 1, 4, 1)", s.share(0, 4, 1, 4, 1), 0);
        Checks.due("share(0, 0, 1, 0, 5)", s.share(0, 0, 1, 0, 5), 3);
        Checks.due("share(0, 0, 1, 0, 5) again", s.share(0, 0, 1, 0, 5), 0);
        Checks.due("differ(0, 1)", s.differ(0, 1), 0);
    }

    private static void promise7WhenNoBlockIsFree() {
        Checks.sentence("7: Places q, q + 1, .. of volume w get what ..");
        CowStore s = Checks.full();
        Checks.due("no block is needed: share(0, 0, 1, 16, 48)", s.share(0, 0, 1, 16, 48), 48);
        Checks.due("blockAt(1, 63)", s.blockAt(1, 63), 47);
        Checks.due("count(0)", s.count(0), 80);
    }

    private static void promise7BlocksBecomeFree() {
        Checks.sentence("7: (which may be FREE then)");
        CowStore s = Checks.full();
        Checks.due("share(0, 0, 1, 0, 16)", s.share(0, 0, 1, 0, 16), 16);
        Checks.due("count(0)", s.count(0), 64);
        Checks.due("write(1, 63, 1)", s.write(1, 63, 1), 64);
    }

    private static void promise7BadIfVIsNotThere() {
        Checks.sentence("7: BAD if v is not there");
        for (int v : new int[] {3, 5, -1, 6, LEAST, GREATEST}) {
            Checks.due("share(" + v + ", 0, 2, 0, 4)", Twins.busy().share(v, 0, 2, 0, 4), CowStore.BAD);
            Checks.due("share(" + v + ", 0, 2, 0, 0)", Twins.busy().share(v, 0, 2, 0, 0), CowStore.BAD);
            Twins.unchanged("share(" + v + ", 0, 2, 0, 4)", Twins::busy, s -> s.share(v, 0, 2, 0, 4));
        }
        Checks.due("FROZEN is there: share(1, 0, 2, 0, 4)", Twins.busy().share(1, 0, 2, 0, 4), 2);
    }

    private static void promise7BadIfWIsNotWritable() {
        Checks.sentence("7: BAD if .. w is not WRITABLE");
        for (int w : new int[] {1, 3, 5, -1, 6, LEAST, GREATEST}) {
            Checks.due("share(0, 0, " + w + ", 0, 4)", Twins.busy().share(0, 0, w, 0, 4), CowStore.BAD);
            Checks.due("share(0, 0, " + w + ", 0, 0)", Twins.busy().share(0, 0, w, 0, 0), CowStore.BAD);
            Twins.unchanged("share(0, 0, " + w + ", 0, 4)", Twins::busy, s -> s.share(0, 0, w, 0, 4));
        }
        Checks.due("FROZEN onto itself: share(1, 0, 1, 0, 64)", Twins.busy().share(1, 0, 1, 0, 64), CowStore.BAD);
    }

    private static void promise7BadIfNIsOutside() {
        Checks.sentence("7: BAD if .. n is outside");
        for (int n : new int[] {-1, 65, -64, LEAST, LEAST + 63, GREATEST}) {
            Checks.due("share(0, 0, 2, 0, " + n + ")", Twins.busy().share(0, 0, 2, 0, n), CowStore.BAD);
            Twins.unchanged("share(0, 0, 2, 0, " + n + ")", Twins::busy, s -> s.share(0, 0, 2, 0, n));
        }
        Checks.due("p and q not above 64 - n: share(0, 65, 2, 65, -1)", Twins.busy().share(0, 65, 2, 65, -1),
            CowStore.BAD);
        Checks.due("p and q not above 64 - n: share(0, -1, 2, -1, 65)", Twins.busy().share(0, -1, 2, -1, 65),
            CowStore.BAD);
    }

    private static void promise7BadIfPIsBelowOrAbove() {
        Checks.sentence("7: BAD if .. p .. is below 0 or above 64 - n");
        int[][] rows = {{-1, 0}, {-1, 1}, {-1, 64}, {65, 0}, {64, 1}, {61, 4}, {1, 64}, {LEAST, 64}, {GREATEST, 64}};
        for (int[] row : rows) {
            int p = row[0];
            int n = row[1];
            String call = "share(0, " + p + ", 2, 0, " + n + ")";
            Checks.due(call, Twins.busy().share(0, p, 2, 0, n), CowStore.BAD);
            Twins.unchanged(call, Twins::busy, s -> s.share(0, p, 2, 0, n));
        }
        Checks.due("not above: share(0, 60, 2, 0, 4)", Twins.busy().share(0, 60, 2, 0, 4), 3);
    }

    private static void promise7BadIfQIsBelowOrAbove() {
        Checks.sentence("7: BAD if .. q is below 0 or above 64 - n");
        int[][] rows = {{-1, 0}, {-1, 1}, {-1, 64}, {65, 0}, {64, 1}, {61, 4}, {1, 64}, {LEAST, 64}, {GREATEST, 64}};
        for (int[] row : rows) {
            int q = row[0];
            int n = row[1];
            String call = "share(0, 0, 2, " + q + ", " + n + ")";
            Checks.due(call, Twins.busy().share(0, 0, 2, q, n), CowStore.BAD);
            Twins.unchanged(call, Twins::busy, s -> s.share(0, 0, 2, q, n));
        }
        Checks.due("not above: share(0, 0, 2, 60, 4)", Twins.busy().share(0, 0, 2, 60, 4), 3);
    }

    private static void promise8Broken() {
        Checks.sentence("8: BROKEN");
        CowStore s = Checks.full();
        Checks.breakBlocks(s, 0, 79);
        Checks.due("read(0, 0)", s.read(0, 0), CowStore.BROKEN);
        Checks.due("read(1, 15)", s.read(1, 15), CowStore.BROKEN);
        Checks.due("read(0, 1)", s.read(0, 1), 101);
        s.share(1, 15, 0, 5, 1);
        Checks.due("wherever it is: read(0, 5)", s.read(0, 5), CowStore.BROKEN);
    }

    private static void promise8NoneIfEmpty() {
        Checks.sentence("8: NONE if it is EMPTY");
        CowStore s = Checks.filled(1);
        Checks.due("never written: read(0, 1)", s.read(0, 1), CowStore.NONE);
        Checks.due("read(0, 63)", s.read(0, 63), CowStore.NONE);
        s.punch(0, 0);
        Checks.due("punched: read(0, 0)", s.read(0, 0), CowStore.NONE);
    }

    private static void promise8NoneIfNotThere() {
        Checks.sentence("8: NONE if .. one is not there");
        int[][] rows = {{3, 0}, {5, 63}, {-1, 0}, {6, 0}, {0, -1}, {0, 64}, {1, -1}, {1, 64}, {1, -64}, {-1, 64},
            {6, -1}, {LEAST, 0}, {GREATEST, 0}, {0, LEAST}, {0, GREATEST}};
        for (int[] row : rows) {
            String call = "read(" + row[0] + ", " + row[1] + ")";
            Checks.due(call, Twins.busy().read(row[0], row[1]), CowStore.NONE);
        }
        CowStore s = Checks.filled(64);
        s.snapshot(0, false);
        Checks.due("not the next volume's: read(0, 64)", s.read(0, 64), CowStore.NONE);
        Checks.due("not the one's before: read(1, -1)", s.read(1, -1), CowStore.NONE);
        s.destroy(1);
        Checks.due("not there any more: read(1, 0)", s.read(1, 0), CowStore.NONE);
    }

    private static void promise9FirstAndLast() {
        Checks.sentence("9: The block at place p of volume v");
        CowStore s = Checks.full();
        Checks.due("blockAt(0, 0)", s.blockAt(0, 0), 0);
        Checks.due("blockAt(0, 63)", s.blockAt(0, 63), 63);
        Checks.due("blockAt(1, 15)", s.blockAt(1, 15), 79);
        Checks.breakBlocks(s, 79);
        Checks.due("BROKEN: blockAt(1, 15)", s.blockAt(1, 15), 79);
    }

    private static void promise9IfEmpty() {
        Checks.sentence("9: -1 if it is EMPTY");
        CowStore s = Checks.filled(1);
        Checks.due("never written: blockAt(0, 1)", s.blockAt(0, 1), -1);
        Checks.due("blockAt(0, 63)", s.blockAt(0, 63), -1);
        s.punch(0, 0);
        Checks.due("punched: blockAt(0, 0)", s.blockAt(0, 0), -1);
    }

    private static void promise9IfNotThere() {
        Checks.sentence("9: -1 if it is .. not there");
        CowStore s = Checks.filled(64);
        s.snapshot(0, false);
        int[][] rows = {{2, 0}, {5, 63}, {-1, 0}, {6, 0}, {0, -1}, {0, 64}, {1, -1}, {1, 64}, {1, -64}, {-1, 64},
            {6, -1}, {LEAST, 0}, {GREATEST, 0}, {0, LEAST}, {0, GREATEST}};
        for (int[] row : rows) {
            Checks.due("blockAt(" + row[0] + ", " + row[1] + ")", s.blockAt(row[0], row[1]), -1);
        }
        s.destroy(1);
        Checks.due("not there any more: blockAt(1, 0)", s.blockAt(1, 0), -1);
    }

    private static void promise9ChangesNothing() {
        Checks.sentence("9: The block (not LOOKED AT)");
        Twins.unchanged("blockAt(0, 3)", Twins::crowded, s -> s.blockAt(0, 3));
    }
}
