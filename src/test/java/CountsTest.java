/** Promises 14 to 18 and 22: count, holders, own, differ, difference. */
public final class CountsTest {
    public static void main(String[] args) {
        promise14Count();
        promise14CountOfCopiesLeavesOutFreeBlocks();
        promise14WrongInputs();
        promise15Holders();
        promise16Own();
        promise16WrongInputs();
        promise17Differ();
        promise17WrongInputs();
        promise18Difference();
        promise18WrongInputs();
        promise22BothEmpty();
        Checks.end();
    }

    private static void promise14Count() {
        CowStore s = Checks.filled(5);
        s.snapshot(0, false);
        Checks.due("a block counts once: count(0)", s.count(0), 5);
        s.spoil(0, 0);
        s.spoil(1, 0);
        s.spoil(1, 1);
        Checks.due("count(1)", s.count(1), 1);
        Checks.due("count(2)", s.count(2), 3);
        Checks.due("it does not LOOK: count(2)", s.count(2), 3);
        s.scrub(7);
        Checks.due("count(3)", s.count(3), 1);
        Checks.due("count(4)", s.count(4), 7);
        s.spoil(1, 2);
        s.punch(0, 0);
        s.punch(1, 0);
        Checks.due("send(0, -1)", s.send(0, -1), 4);
        Checks.due("send heals too: count(3)", s.count(3), 2);
        Checks.due("count(5)", s.count(5), 4);
        Checks.due("count(1)", s.count(1), 0);
        Checks.due("count(0)", s.count(0), 4);
    }

    private static void promise14CountOfCopiesLeavesOutFreeBlocks() {
        CowStore s = Checks.filled(2);
        s.spoil(0, 0);
        s.spoil(1, 0);
        s.spoil(0, 1);
        s.punch(0, 0);
        Checks.due("count(1)", s.count(1), 0);
        Checks.due("count(2)", s.count(2), 1);
        s.lose(0);
        Checks.due("count(2)", s.count(2), 1);
        s.destroy(0);
        Checks.due("count(2)", s.count(2), 0);
        Checks.due("count(0)", s.count(0), 0);
    }

    private static void promise14WrongInputs() {
        CowStore s = Checks.filled(5);
        Checks.due("count(-1)", s.count(-1), CowStore.BAD);
        Checks.due("count(6)", s.count(6), CowStore.BAD);
        Checks.due("count(least)", s.count(Integer.MIN_VALUE), CowStore.BAD);
        Checks.due("count(greatest)", s.count(Integer.MAX_VALUE), CowStore.BAD);
    }

    private static void promise15Holders() {
        CowStore s = Checks.filled(1);
        Checks.due("holders(0)", s.holders(0), 1);
        for (int v = 1; v < 6; v++) {
            s.snapshot(0, v % 2 == 0);
        }
        Checks.due("places of all volumes: holders(0)", s.holders(0), 6);
        for (int n = 1; n < 64; n += n) {
            s.share(0, 0, 0, n, n);
        }
        Checks.due("all places: holders(0)", s.holders(0), 69);
        s.destroy(0);
        Checks.due("holders(0)", s.holders(0), 5);
        Checks.due("FREE: holders(1)", s.holders(1), 0);
        Checks.due("holders(-1)", s.holders(-1), 0);
        Checks.due("holders(80)", s.holders(80), 0);
        Checks.due("holders(79)", Checks.full().holders(79), 1);
    }

    private static void promise16Own() {
        CowStore s = Checks.filled(64);
        Checks.due("own(0)", s.own(0), 64);
        s.snapshot(0, true);
        Checks.due("own(0)", s.own(0), 0);
        Checks.due("own(1)", s.own(1), 0);
        s.write(0, 0, 1);
        Checks.due("own(0)", s.own(0), 1);
        Checks.due("own(1)", s.own(1), 1);
        s.share(0, 0, 0, 5, 1);
        Checks.due("two places, one block: own(0)", s.own(0), 1);
        Checks.due("own(1)", s.own(1), 2);
        s.create();
        Checks.due("own(2)", s.own(2), 0);
        s.share(0, 0, 2, 9, 1);
        Checks.due("two places here, one elsewhere: own(0)", s.own(0), 0);
        Checks.due("own(2)", s.own(2), 0);
        s.destroy(1);
        Checks.due("own(0)", s.own(0), 62);
    }

    private static void promise16WrongInputs() {
        CowStore s = Checks.filled(1);
        Checks.due("own(1)", s.own(1), CowStore.BAD);
        Checks.due("own(-1)", s.own(-1), CowStore.BAD);
        Checks.due("own(6)", s.own(6), CowStore.BAD);
    }

    private static void promise17Differ() {
        CowStore s = Checks.filled(3);
        s.create();
        Checks.due("one has none: differ(0, 1)", s.differ(0, 1), 3);
        Checks.due("differ(1, 0)", s.differ(1, 0), 3);
        Checks.due("with itself: differ(0, 0)", s.differ(0, 0), 0);
        s.share(0, 0, 1, 0, 2);
        Checks.due("differ(0, 1)", s.differ(0, 1), 1);
        s.write(1, 2, 102);
        Checks.due("the same value in another block: differ(0, 1)", s.differ(0, 1), 1);
        s.write(1, 63, 1);
        Checks.due("differ(0, 1)", s.differ(0, 1), 2);
        s.snapshot(1, true);
        Checks.due("FROZEN: differ(2, 0)", s.differ(2, 0), 2);
        s.spoil(0, 0);
        s.differ(0, 1);
        Checks.due("it does not LOOK: count(2)", s.count(2), 1);
    }

    private static void promise17WrongInputs() {
        CowStore s = Checks.filled(1);
        Checks.due("differ(0, 1)", s.differ(0, 1), CowStore.BAD);
        Checks.due("differ(1, 0)", s.differ(1, 0), CowStore.BAD);
        Checks.due("differ(1, 1)", s.differ(1, 1), CowStore.BAD);
        Checks.due("differ(0, -1)", s.differ(0, -1), CowStore.BAD);
        Checks.due("differ(6, 0)", s.differ(6, 0), CowStore.BAD);
    }

    private static void promise18Difference() {
        CowStore s = Checks.filled(64);
        s.snapshot(0, false);
        Checks.due("none: difference(0, 1, 0)", s.difference(0, 1, 0), -1);
        s.write(1, 63, 1);
        s.punch(0, 7);
        s.punch(1, 0);
        int[] places = {0, 7, 63};
        for (int k = 0; k < 3; k++) {
            Checks.due("difference(0, 1, " + k + ")", s.difference(0, 1, k), places[k]);
            Checks.due("difference(1, 0, " + k + ")", s.difference(1, 0, k), places[k]);
        }
        Checks.due("difference(0, 1, 3)", s.difference(0, 1, 3), -1);
        Checks.due("with itself: difference(0, 0, 0)", s.difference(0, 0, 0), -1);
        s.create();
        Checks.due("difference(1, 2, 62)", s.difference(1, 2, 62), 63);
        Checks.due("difference(1, 2, 63)", s.difference(1, 2, 63), -1);
    }

    private static void promise18WrongInputs() {
        CowStore s = Checks.filled(2);
        s.create();
        Checks.due("difference(0, 1, -1)", s.difference(0, 1, -1), -1);
        Checks.due("difference(0, 1, 64)", s.difference(0, 1, 64), -1);
        Checks.due("difference(0, 1, least)", s.difference(0, 1, Integer.MIN_VALUE), -1);
        Checks.due("difference(0, 1, greatest)", s.difference(0, 1, Integer.MAX_VALUE), -1);
        Checks.due("difference(0, 2, 0)", s.difference(0, 2, 0), -1);
        Checks.due("difference(2, 0, 0)", s.difference(2, 0, 0), -1);
        Checks.due("difference(0, -1, 0)", s.difference(0, -1, 0), -1);
        Checks.due("difference(6, 0, 0)", s.difference(6, 0, 0), -1);
    }

    private static void promise22BothEmpty() {
        CowStore s = new CowStore();
        s.create();
        s.create();
        Checks.due("differ(0, 1)", s.differ(0, 1), 0);
        Checks.due("difference(0, 1, 0)", s.difference(0, 1, 0), -1);
        Checks.due("send(0, 1)", s.send(0, 1), 0);
        Checks.due("send(0, -1)", s.send(0, -1), 0);
        s.write(0, 40, 1);
        s.write(1, 50, 1);
        Checks.due("differ(0, 1)", s.differ(0, 1), 2);
        Checks.due("difference(0, 1, 0)", s.difference(0, 1, 0), 40);
        Checks.due("difference(0, 1, 1)", s.difference(0, 1, 1), 50);
        Checks.due("send(0, 1)", s.send(0, 1), 2);
        s.punch(0, 40);
        s.punch(1, 50);
        Checks.due("EMPTY again: differ(0, 1)", s.differ(0, 1), 0);
        Checks.due("send(0, 1)", s.send(0, 1), 0);
    }
}
