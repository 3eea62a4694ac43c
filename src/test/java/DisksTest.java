/** Promises 10 to 13: spoil, lose, replace, scrub. */
public final class DisksTest {
    public static void main(String[] args) {
        promise10Spoil();
        promise10WrongInputs();
        promise11Lose();
        promise11WrongInputs();
        promise12Replace();
        promise12WrongInputs();
        promise13ScrubHeals();
        promise13ScrubGoesRound();
        promise13ScrubAndFreeBlocks();
        promise13WrongInputs();
        Checks.end();
    }

    private static void promise10Spoil() {
        CowStore s = Checks.full();
        Checks.due("spoil(0, 0)", s.spoil(0, 0), true);
        Checks.due("spoil(0, 0) again", s.spoil(0, 0), false);
        Checks.due("spoil(1, 79)", s.spoil(1, 79), true);
        Checks.due("count(2)", s.count(2), 2);
        Checks.due("count(1)", s.count(1), 0);
        Checks.due("spoil(1, 0)", s.spoil(1, 0), true);
        Checks.due("count(1)", s.count(1), 1);
        s.lose(0);
        Checks.due("on a LOST disk: spoil(0, 5)", s.spoil(0, 5), false);
        s.replace(0);
        Checks.due("not healed yet: spoil(0, 5)", s.spoil(0, 5), false);
        s.read(0, 5);
        Checks.due("healed: spoil(0, 5)", s.spoil(0, 5), true);
    }

    private static void promise10WrongInputs() {
        CowStore s = Checks.filled(3);
        s.punch(0, 1);
        Checks.due("FREE again: spoil(0, 1)", s.spoil(0, 1), false);
        Checks.due("FREE: spoil(0, 3)", s.spoil(0, 3), false);
        Checks.due("spoil(-1, 0)", s.spoil(-1, 0), false);
        Checks.due("spoil(2, 0)", s.spoil(2, 0), false);
        Checks.due("spoil(0, -1)", s.spoil(0, -1), false);
        Checks.due("spoil(0, 80)", s.spoil(0, 80), false);
        Checks.due("spoil(1, -80)", s.spoil(1, -80), false);
        Checks.due("count(2)", s.count(2), 0);
        s.write(0, 1, 7);
        Checks.due("spoiling a FREE block leaves nothing: count(2)", s.count(2), 0);
    }

    private static void promise11Lose() {
        CowStore s = Checks.filled(10);
        s.spoil(0, 3);
        s.punch(0, 4);
        Checks.due("BAD and FREE ones do not count: lose(0)", s.lose(0), 8);
        Checks.due("lose(0) again", s.lose(0), CowStore.BAD);
        Checks.due("count(2)", s.count(2), 9);
        Checks.due("count(1)", s.count(1), 0);
        Checks.due("read(0, 0)", s.read(0, 0), 100);
        Checks.due("lose(1)", s.lose(1), 9);
        Checks.due("count(1)", s.count(1), 9);
        Checks.due("read(0, 0)", s.read(0, 0), CowStore.BROKEN);
        Checks.due("a full store: lose(1)", Checks.full().lose(1), 80);
    }

    private static void promise11WrongInputs() {
        CowStore s = Checks.filled(1);
        Checks.due("lose(-1)", s.lose(-1), CowStore.BAD);
        Checks.due("lose(2)", s.lose(2), CowStore.BAD);
        Checks.due("count(2)", s.count(2), 0);
    }

    private static void promise12Replace() {
        CowStore s = Checks.filled(4);
        Checks.due("PRESENT: replace(0)", s.replace(0), false);
        s.lose(0);
        Checks.due("the other one: replace(1)", s.replace(1), false);
        Checks.due("replace(0)", s.replace(0), true);
        Checks.due("replace(0) again", s.replace(0), false);
        Checks.due("copies stay as they are: count(2)", s.count(2), 4);
        Checks.due("count(3)", s.count(3), 0);
        s.write(0, 10, 1);
        Checks.due("a new block has both: count(2)", s.count(2), 4);
        Checks.due("it can be LOST again: lose(0)", s.lose(0), 1);
        Checks.due("replace(0)", s.replace(0), true);
        Checks.due("and healed: scrub(80)", s.scrub(80), 5);
    }

    private static void promise12WrongInputs() {
        CowStore s = new CowStore();
        s.lose(0);
        s.lose(1);
        Checks.due("replace(-1)", s.replace(-1), false);
        Checks.due("replace(2)", s.replace(2), false);
        Checks.due("replace(1)", s.replace(1), true);
        Checks.due("replace(0)", s.replace(0), true);
    }

    private static void promise13ScrubHeals() {
        CowStore s = Checks.filled(10);
        s.spoil(0, 0);
        s.spoil(1, 2);
        s.spoil(0, 3);
        s.spoil(1, 3);
        s.spoil(1, 9);
        Checks.due("scrub(0)", s.scrub(0), 0);
        Checks.due("count(2)", s.count(2), 5);
        Checks.due("scrub(2)", s.scrub(2), 1);
        Checks.due("count(4)", s.count(4), 2);
        Checks.due("BROKEN stays: scrub(7)", s.scrub(7), 1);
        Checks.due("count(2)", s.count(2), 3);
        Checks.due("scrub(1)", s.scrub(1), 1);
        Checks.due("count(2)", s.count(2), 2);
        Checks.due("count(3)", s.count(3), 3);
        s.lose(1);
        Checks.due("no healing on a LOST disk: scrub(80)", s.scrub(80), 0);
        s.replace(1);
        Checks.due("scrub(80)", s.scrub(80), 9);
        Checks.due("count(3)", s.count(3), 12);
    }

    private static void promise13ScrubGoesRound() {
        CowStore s = Checks.full();
        s.scrub(79);
        Checks.due("count(4)", s.count(4), 79);
        s.spoil(0, 79);
        s.spoil(0, 0);
        s.spoil(0, 1);
        Checks.due("scrub(2)", s.scrub(2), 2);
        Checks.due("count(4)", s.count(4), 1);
        Checks.due("scrub(80)", s.scrub(80), 1);
        Checks.due("all round: count(4)", s.count(4), 1);
        s.scrub(79);
        Checks.due("count(4)", s.count(4), 0);
    }

    private static void promise13ScrubAndFreeBlocks() {
        CowStore s = Checks.filled(2);
        s.spoil(0, 1);
        s.punch(0, 1);
        Checks.due("nothing to see: scrub(80)", s.scrub(80), 0);
        Checks.due("count(3)", s.count(3), 0);
        Checks.due("FREE ones are gone over: scrub(50)", s.scrub(50), 0);
        Checks.due("count(4)", s.count(4), 50);
    }

    private static void promise13WrongInputs() {
        CowStore s = Checks.filled(2);
        s.scrub(3);
        s.spoil(0, 1);
        Checks.due("scrub(-1)", s.scrub(-1), CowStore.BAD);
        Checks.due("scrub(81)", s.scrub(81), CowStore.BAD);
        Checks.due("scrub(least)", s.scrub(Integer.MIN_VALUE), CowStore.BAD);
        Checks.due("scrub(greatest)", s.scrub(Integer.MAX_VALUE), CowStore.BAD);
        Checks.due("count(4)", s.count(4), 3);
        Checks.due("count(2)", s.count(2), 1);
    }
}
