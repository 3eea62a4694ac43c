/** The boundary cases that promises 10 to 13 name, each sentence by itself. */
public final class DisksEdgesTest {
    private static final int LEAST = Integer.MIN_VALUE;
    private static final int GREATEST = Integer.MAX_VALUE;

    public static void main(String[] args) {
        promise10FirstAndLastCopies();
        promise10FalseIfItWasBad();
        promise10FalseOnALostDisk();
        promise10FalseIfFree();
        promise10FalseIfThereIsNone();
        promise11NoBlocks();
        promise11AllBlocks();
        promise11BadCopiesDoNotCount();
        promise11FreeBlocksDoNotCount();
        promise11BadIfItWasLost();
        promise11BadIfThereIsNone();
        promise12CopiesStayAsTheyAre();
        promise12FalseIfItWasPresent();
        promise12FalseIfThereIsNone();
        promise13NoBlocks();
        promise13AllBlocks();
        promise13FreeBlocks();
        promise13FromWhereItWas();
        promise13GoingOnFrom79To0();
        promise13BrokenAndLostAreNotHealed();
        promise13BadForAnotherN();
        Checks.end();
    }

    private static void promise10FirstAndLastCopies() {
        Checks.sentence("10: true if it was GOOD");
        CowStore s = Checks.full();
        for (int disk = 0; disk < 2; disk++) {
            for (int block = 0; block < 80; block++) {
                Checks.due("spoil(" + disk + ", " + block + ")", s.spoil(disk, block), true);
            }
            Checks.due("count(2)", s.count(2), 80 * (disk + 1));
        }
        Checks.due("count(1)", s.count(1), 80);
    }

    private static void promise10FalseIfItWasBad() {
        Checks.sentence("10: false otherwise");
        CowStore s = Checks.filled(1);
        Checks.due("spoil(0, 0)", s.spoil(0, 0), true);
        Checks.due("again: spoil(0, 0)", s.spoil(0, 0), false);
        Checks.due("count(2)", s.count(2), 1);
        s.read(0, 0);
        Checks.due("GOOD again: spoil(0, 0)", s.spoil(0, 0), true);
        Twins.unchanged("spoil(0, 3)", Twins::busy, t -> t.spoil(0, 3));
    }

    private static void promise10FalseOnALostDisk() {
        Checks.sentence("10: false otherwise");
        CowStore s = Checks.filled(1);
        s.lose(1);
        Checks.due("spoil(1, 0)", s.spoil(1, 0), false);
        Checks.due("the other disk: spoil(0, 0)", s.spoil(0, 0), true);
        s.replace(1);
        Checks.due("not HEALED: spoil(1, 0)", s.spoil(1, 0), false);
    }

    private static void promise10FalseIfFree() {
        Checks.sentence("10: false .. (also if the block is FREE");
        CowStore s = Checks.filled(2);
        Checks.due("never written: spoil(0, 2)", s.spoil(0, 2), false);
        Checks.due("spoil(1, 79)", s.spoil(1, 79), false);
        s.punch(0, 1);
        Checks.due("punched: spoil(0, 1)", s.spoil(0, 1), false);
        s.write(0, 1, 5);
        s.write(0, 2, 6);
        Checks.due("what is WRITTEN then is GOOD: count(2)", s.count(2), 0);
        Twins.unchanged("spoil(0, 79)", Twins::busy, t -> t.spoil(0, 79));
    }

    private static void promise10FalseIfThereIsNone() {
        Checks.sentence("10: false .. (also if .. one is none)");
        int[][] rows = {{-1, 0}, {2, 0}, {0, -1}, {0, 80}, {1, -1}, {1, 80}, {1, -80}, {-1, 80}, {2, -80},
            {LEAST, 0}, {GREATEST, 0}, {0, LEAST}, {0, GREATEST}};
        for (int[] row : rows) {
            String call = "spoil(" + row[0] + ", " + row[1] + ")";
            Checks.due(call, Twins.crowded().spoil(row[0], row[1]), false);
            Twins.unchanged(call, Twins::crowded, s -> s.spoil(row[0], row[1]));
        }
    }

    private static void promise11NoBlocks() {
        Checks.sentence("11: How many were GOOD");
        CowStore s = new CowStore();
        Checks.due("lose(0)", s.lose(0), 0);
        Checks.due("lose(1)", s.lose(1), 0);
    }

    private static void promise11AllBlocks() {
        Checks.sentence("11: all copies on it are BAD. How many were GOOD");
        for (int disk = 0; disk < 2; disk++) {
            CowStore s = Checks.full();
            Checks.due("lose(" + disk + ")", s.lose(disk), 80);
            Checks.due("count(2)", s.count(2), 80);
            Checks.due("count(1)", s.count(1), 0);
            Checks.due("spoil(" + disk + ", 0)", s.spoil(disk, 0), false);
            Checks.due("spoil(" + disk + ", 79)", s.spoil(disk, 79), false);
            Checks.due("read(0, 0)", s.read(0, 0), 100);
            Checks.due("the other one, too: lose", s.lose(1 - disk), 80);
            Checks.due("count(1)", s.count(1), 80);
        }
    }

    private static void promise11BadCopiesDoNotCount() {
        Checks.sentence("11: How many were GOOD");
        CowStore s = Checks.filled(3);
        s.spoil(0, 0);
        s.spoil(1, 1);
        Checks.due("lose(0)", s.lose(0), 2);
        s.replace(0);
        Checks.due("none is GOOD yet: lose(0)", s.lose(0), 0);
        s.replace(0);
        Checks.due("HEALED: scrub(1)", s.scrub(1), 1);
        Checks.due("lose(0)", s.lose(0), 1);
    }

    private static void promise11FreeBlocksDoNotCount() {
        Checks.sentence("11: How many were GOOD");
        CowStore s = Checks.filled(3);
        s.punch(0, 1);
        Checks.due("lose(0)", s.lose(0), 2);
        Checks.due("count(2)", s.count(2), 2);
    }

    private static void promise11BadIfItWasLost() {
        Checks.sentence("11: BAD if it was LOST");
        CowStore s = Checks.filled(1);
        s.lose(0);
        Checks.due("lose(0)", s.lose(0), CowStore.BAD);
        s.replace(0);
        Checks.due("PRESENT again: lose(0)", s.lose(0), 0);
        Twins.unchanged("lose(1)", Twins::busy, t -> t.lose(1));
    }

    private static void promise11BadIfThereIsNone() {
        Checks.sentence("11: BAD if .. there is none");
        for (int disk : new int[] {-1, 2, LEAST, GREATEST}) {
            Checks.due("lose(" + disk + ")", Twins.busy().lose(disk), CowStore.BAD);
            Twins.unchanged("lose(" + disk + ")", Twins::busy, s -> s.lose(disk));
        }
    }

    private static void promise12CopiesStayAsTheyAre() {
        Checks.sentence("12: The disk is PRESENT again; copies on it stay as they are");
        for (int disk = 0; disk < 2; disk++) {
            CowStore s = Checks.filled(2);
            s.lose(disk);
            Checks.due("replace(" + disk + ")", s.replace(disk), true);
            Checks.due("count(2)", s.count(2), 2);
            Checks.due("count(3)", s.count(3), 0);
            s.write(0, 5, 1);
            Checks.due("GOOD on both: spoil(" + disk + ", 2)", s.spoil(disk, 2), true);
            Checks.due("read(0, 0)", s.read(0, 0), 100);
            Checks.due("count(3)", s.count(3), 1);
        }
    }

    private static void promise12FalseIfItWasPresent() {
        Checks.sentence("12: False if it was PRESENT");
        CowStore s = Checks.filled(1);
        Checks.due("replace(0)", s.replace(0), false);
        Checks.due("replace(1)", s.replace(1), false);
        s.lose(1);
        Checks.due("the other one is LOST: replace(0)", s.replace(0), false);
        Checks.due("replace(1)", s.replace(1), true);
        Checks.due("again: replace(1)", s.replace(1), false);
        Twins.unchanged("replace(0)", Twins::busy, t -> t.replace(0));
    }

    private static void promise12FalseIfThereIsNone() {
        Checks.sentence("12: False if .. there is none");
        for (int disk : new int[] {-1, 2, LEAST, GREATEST}) {
            Checks.due("replace(" + disk + ")", Twins.busy().replace(disk), false);
            Twins.unchanged("replace(" + disk + ")", Twins::busy, s -> s.replace(disk));
        }
    }

    private static void promise13NoBlocks() {
        Checks.sentence("13: n blocks (0..80");
        Checks.due("scrub(0)", Twins.busy().scrub(0), 0);
        Twins.unchanged("scrub(0)", Twins::busy, s -> s.scrub(0));
        Twins.unchanged("scrub(0)", Twins::crowded, s -> s.scrub(0));
    }

    private static void promise13AllBlocks() {
        Checks.sentence("13: n blocks (0..80");
        CowStore s = Checks.full();
        s.scrub(33);
        s.lose(0);
        s.replace(0);
        Checks.due("scrub(80)", s.scrub(80), 80);
        Checks.due("all round: count(4)", s.count(4), 33);
        Checks.due("count(2)", s.count(2), 0);
        Checks.due("count(3)", s.count(3), 80);
    }

    private static void promise13FreeBlocks() {
        Checks.sentence("13: FREE ones too, where there is nothing to see");
        CowStore s = Checks.filled(3);
        s.spoil(0, 1);
        s.spoil(0, 2);
        s.punch(0, 1);
        Checks.due("blocks 0 and 1: scrub(2)", s.scrub(2), 0);
        Checks.due("count(4)", s.count(4), 2);
        Checks.due("block 2: scrub(1)", s.scrub(1), 1);
        Checks.due("only FREE ones: scrub(77)", s.scrub(77), 0);
        Checks.due("count(4)", s.count(4), 0);
        CowStore none = new CowStore();
        Checks.due("all are FREE: scrub(79)", none.scrub(79), 0);
        Checks.due("count(4)", none.count(4), 79);
    }

    private static void promise13FromWhereItWas() {
        Checks.sentence("13: from where it was");
        CowStore s = Checks.filled(4);
        s.scrub(1);
        s.spoil(0, 0);
        s.spoil(0, 1);
        s.spoil(1, 2);
        s.spoil(0, 3);
        Checks.due("blocks 1 and 2: scrub(2)", s.scrub(2), 2);
        Checks.due("count(4)", s.count(4), 3);
        Checks.due("block 0 was not LOOKED AT: spoil(0, 0)", s.spoil(0, 0), false);
        Checks.due("nor block 3: spoil(0, 3)", s.spoil(0, 3), false);
    }

    private static void promise13GoingOnFrom79To0() {
        Checks.sentence("13: going on from 79 to 0");
        CowStore s = Checks.full();
        s.scrub(79);
        Checks.due("count(4)", s.count(4), 79);
        s.spoil(0, 78);
        s.spoil(0, 79);
        s.spoil(1, 0);
        s.spoil(0, 1);
        Checks.due("block 79: scrub(1)", s.scrub(1), 1);
        Checks.due("count(4)", s.count(4), 0);
        Checks.due("block 0: scrub(1)", s.scrub(1), 1);
        Checks.due("count(4)", s.count(4), 1);
        s.scrub(77);
        Checks.due("count(4)", s.count(4), 78);
        s.spoil(0, 78);
        s.spoil(0, 79);
        s.spoil(0, 0);
        s.spoil(0, 1);
        Checks.due("blocks 78, 79, 0: scrub(3)", s.scrub(3), 3);
        Checks.due("count(4)", s.count(4), 1);
        Checks.due("block 1 was not LOOKED AT: spoil(0, 1)", s.spoil(0, 1), false);
    }

    private static void promise13BrokenAndLostAreNotHealed() {
        Checks.sentence("13: how many copies were HEALED");
        CowStore s = Checks.filled(3);
        Checks.breakBlocks(s, 1);
        s.lose(1);
        Checks.due("scrub(80)", s.scrub(80), 0);
        Checks.due("count(3)", s.count(3), 0);
        s.replace(1);
        Checks.due("all but the BROKEN one: scrub(80)", s.scrub(80), 2);
        Checks.due("count(1)", s.count(1), 1);
        Checks.due("again: scrub(80)", s.scrub(80), 0);
    }

    private static void promise13BadForAnotherN() {
        Checks.sentence("13: BAD for another n");
        for (int n : new int[] {-1, 81, -80, 160, LEAST, GREATEST}) {
            Checks.due("scrub(" + n + ")", Twins.busy().scrub(n), CowStore.BAD);
            Twins.unchanged("scrub(" + n + ")", Twins::busy, s -> s.scrub(n));
            Twins.unchanged("scrub(" + n + ")", Twins::crowded, s -> s.scrub(n));
        }
    }
}
