/** Promises 5 to 9: write, punch, share, read, blockAt. */
public final class PlacesTest {
    public static void main(String[] args) {
        promise5WriteTakesTheLeastFreeBlock();
        promise5WriteWhenFull();
        promise5WriteOnLostDisks();
        promise5WrongInputs();
        promise6Punch();
        promise6WrongInputs();
        promise7Share();
        promise7ShareOverlapping();
        promise7ShareFreesBlocks();
        promise7Edges();
        promise7WrongInputs();
        promise8Read();
        promise8ReadHeals();
        promise8ReadBroken();
        promise8WrongInputs();
        promise9BlockAt();
        Checks.end();
    }

    private static void promise5WriteTakesTheLeastFreeBlock() {
        CowStore s = new CowStore();
        s.create();
        Checks.due("write(0, 63, 1)", s.write(0, 63, 1), 0);
        Checks.due("write(0, 0, 2)", s.write(0, 0, 2), 1);
        Checks.due("not in its place: write(0, 63, 3)", s.write(0, 63, 3), 2);
        Checks.due("read(0, 63)", s.read(0, 63), 3);
        Checks.due("the old one is FREE: holders(0)", s.holders(0), 0);
        Checks.due("write(0, 63, 4)", s.write(0, 63, 4), 0);
        Checks.due("holders(2)", s.holders(2), 0);
        Checks.due("count(0)", s.count(0), 2);
        s.snapshot(0, true);
        Checks.due("write(0, 63, 5)", s.write(0, 63, 5), 2);
        Checks.due("the snapshot keeps its own: read(1, 63)", s.read(1, 63), 4);
        Checks.due("holders(0)", s.holders(0), 1);
        Checks.due("count(0)", s.count(0), 3);
    }

    private static void promise5WriteWhenFull() {
        CowStore s = Checks.full();
        Checks.due("count(0)", s.count(0), 80);
        Checks.due("FULL at an EMPTY place", s.write(1, 16, 1), CowStore.FULL);
        Checks.due("FULL where the place's block would become FREE", s.write(0, 5, 1), CowStore.FULL);
        Checks.due("BAD goes before FULL", s.write(0, 64, 1), CowStore.BAD);
        Checks.due("read(0, 5)", s.read(0, 5), 105);
        Checks.due("blockAt(1, 16)", s.blockAt(1, 16), -1);
        Checks.due("count(0)", s.count(0), 80);
        Checks.due("punch(1, 15)", s.punch(1, 15), 1);
        Checks.due("write(0, 5, 1)", s.write(0, 5, 1), 79);
        Checks.due("write(0, 6, 2)", s.write(0, 6, 2), 5);
    }

    private static void promise5WriteOnLostDisks() {
        CowStore s = new CowStore();
        s.create();
        s.lose(0);
        s.write(0, 0, 1);
        Checks.due("one copy is BAD: count(2)", s.count(2), 1);
        Checks.due("the one on disk 0: spoil(0, 0)", s.spoil(0, 0), false);
        Checks.due("the other is GOOD: spoil(1, 0)", s.spoil(1, 0), true);
        s.lose(1);
        s.write(0, 1, 2);
        Checks.due("both are BAD: read(0, 1)", s.read(0, 1), CowStore.BROKEN);
        s.replace(0);
        s.replace(1);
        Checks.due("a BROKEN block's place can be written", s.write(0, 1, 3), 2);
        Checks.due("read(0, 1)", s.read(0, 1), 3);
        Checks.due("a block taken again has new copies", s.write(0, 2, 4), 1);
        Checks.due("read(0, 2)", s.read(0, 2), 4);
        Checks.due("count(2)", s.count(2), 2);
    }

    private static void promise5WrongInputs() {
        CowStore s = Checks.filled(1);
        s.snapshot(0, true);
        Checks.due("write(-1, 0, 1)", s.write(-1, 0, 1), CowStore.BAD);
        Checks.due("write(2, 0, 1)", s.write(2, 0, 1), CowStore.BAD);
        Checks.due("write(6, 0, 1)", s.write(6, 0, 1), CowStore.BAD);
        Checks.due("write(1, 0, 1)", s.write(1, 0, 1), CowStore.BAD);
        Checks.due("write(0, -1, 1)", s.write(0, -1, 1), CowStore.BAD);
        Checks.due("write(0, 64, 1)", s.write(0, 64, 1), CowStore.BAD);
        Checks.due("count(0)", s.count(0), 1);
    }

    private static void promise6Punch() {
        CowStore s = Checks.filled(64);
        Checks.due("punch(0, 0)", s.punch(0, 0), 1);
        Checks.due("punch(0, 0) again", s.punch(0, 0), 0);
        Checks.due("blockAt(0, 0)", s.blockAt(0, 0), -1);
        Checks.due("punch(0, 63)", s.punch(0, 63), 1);
        Checks.due("count(0)", s.count(0), 62);
        s.snapshot(0, false);
        Checks.due("another volume has it: punch(0, 1)", s.punch(0, 1), 0);
        Checks.due("read(1, 1)", s.read(1, 1), 101);
        Checks.due("the last one: punch(1, 1)", s.punch(1, 1), 1);
        s.write(0, 0, 1);
        s.share(0, 0, 0, 63, 1);
        Checks.due("another place has it: punch(0, 0)", s.punch(0, 0), 0);
        Checks.due("punch(0, 63)", s.punch(0, 63), 1);
    }

    private static void promise6WrongInputs() {
        CowStore s = Checks.filled(1);
        s.snapshot(0, true);
        Checks.due("punch(-1, 0)", s.punch(-1, 0), CowStore.BAD);
        Checks.due("punch(2, 0)", s.punch(2, 0), CowStore.BAD);
        Checks.due("punch(6, 0)", s.punch(6, 0), CowStore.BAD);
        Checks.due("punch(1, 0)", s.punch(1, 0), CowStore.BAD);
        Checks.due("punch(0, -1)", s.punch(0, -1), CowStore.BAD);
        Checks.due("punch(0, 64)", s.punch(0, 64), CowStore.BAD);
        Checks.due("holders(0)", s.holders(0), 2);
    }

    private static void promise7Share() {
        CowStore s = Checks.filled(4);
        s.create();
        s.write(1, 11, 1);
        s.write(1, 14, 2);
        Checks.due("share(0, 0, 1, 10, 6)", s.share(0, 0, 1, 10, 6), 5);
        for (int i = 0; i < 4; i++) {
            Checks.due("blockAt(1, 10 + " + i + ")", s.blockAt(1, 10 + i), i);
        }
        Checks.due("EMPTY is shared too: blockAt(1, 14)", s.blockAt(1, 14), -1);
        Checks.due("nothing is else now", s.share(0, 0, 1, 10, 6), 0);
        Checks.due("holders(0)", s.holders(0), 2);
        Checks.due("count(0)", s.count(0), 4);
        s.snapshot(0, true);
        Checks.due("from a FROZEN one", s.share(2, 3, 1, 0, 1), 1);
        Checks.due("holders(3)", s.holders(3), 4);
        Checks.due("sharing takes no block", Checks.full().share(0, 0, 1, 0, 64), 64);
    }

    private static void promise7ShareOverlapping() {
        CowStore up = Checks.filled(10);
        Checks.due("up: share(0, 0, 0, 3, 10)", up.share(0, 0, 0, 3, 10), 10);
        for (int p = 0; p < 13; p++) {
            Checks.due("up: blockAt(0, " + p + ")", up.blockAt(0, p), p < 3 ? p : p - 3);
        }
        CowStore down = Checks.filled(10);
        Checks.due("down: share(0, 3, 0, 0, 10)", down.share(0, 3, 0, 0, 10), 10);
        for (int p = 0; p < 10; p++) {
            Checks.due("down: blockAt(0, " + p + ")", down.blockAt(0, p), p < 7 ? p + 3 : -1);
        }
        Checks.due("onto itself", down.share(0, 0, 0, 0, 64), 0);
    }

    private static void promise7ShareFreesBlocks() {
        CowStore s = Checks.filled(4);
        Checks.due("share(0, 10, 0, 0, 2)", s.share(0, 10, 0, 0, 2), 2);
        Checks.due("count(0)", s.count(0), 2);
        Checks.due("write(0, 0, 1)", s.write(0, 0, 1), 0);
        // Block 2 loses its only place and gets the next one: it stays what it was.
        s.spoil(1, 2);
        Checks.due("share(0, 1, 0, 2, 2)", s.share(0, 1, 0, 2, 2), 2);
        Checks.due("holders(2)", s.holders(2), 1);
        Checks.due("holders(3)", s.holders(3), 0);
        Checks.due("count(2)", s.count(2), 1);
        Checks.due("read(0, 3)", s.read(0, 3), 102);
        Checks.due("count(3)", s.count(3), 1);
    }

    private static void promise7Edges() {
        CowStore s = Checks.filled(64);
        s.create();
        Checks.due("n 0", s.share(0, 0, 1, 0, 0), 0);
        Checks.due("n 0 behind the last place", s.share(0, 64, 1, 64, 0), 0);
        Checks.due("n 64", s.share(0, 0, 1, 0, 64), 64);
        Checks.due("the last place", s.share(0, 0, 1, 63, 1), 1);
        Checks.due("from the last place", s.share(0, 63, 1, 0, 1), 1);
        Checks.due("blockAt(1, 63)", s.blockAt(1, 63), 0);
        Checks.due("blockAt(1, 0)", s.blockAt(1, 0), 63);
    }

    private static void promise7WrongInputs() {
        CowStore s = Checks.filled(64);
        s.create();
        s.snapshot(1, true);
        Checks.due("v not there", s.share(3, 0, 1, 0, 1), CowStore.BAD);
        Checks.due("v none", s.share(-1, 0, 1, 0, 1), CowStore.BAD);
        Checks.due("w not there", s.share(0, 0, 3, 0, 1), CowStore.BAD);
        Checks.due("w none", s.share(0, 0, 6, 0, 1), CowStore.BAD);
        Checks.due("w FROZEN", s.share(0, 0, 2, 0, 1), CowStore.BAD);
        Checks.due("w FROZEN, n 0", s.share(0, 0, 2, 0, 0), CowStore.BAD);
        Checks.due("n -1", s.share(0, 0, 1, 0, -1), CowStore.BAD);
        Checks.due("n 65", s.share(0, 0, 1, 0, 65), CowStore.BAD);
        Checks.due("n least", s.share(0, 0, 1, 0, Integer.MIN_VALUE), CowStore.BAD);
        Checks.due("n greatest", s.share(0, 0, 1, 0, Integer.MAX_VALUE), CowStore.BAD);
        Checks.due("p -1", s.share(0, -1, 1, 0, 1), CowStore.BAD);
        Checks.due("q -1", s.share(0, 0, 1, -1, 1), CowStore.BAD);
        Checks.due("p above 64 - n", s.share(0, 61, 1, 0, 4), CowStore.BAD);
        Checks.due("q above 64 - n", s.share(0, 0, 1, 61, 4), CowStore.BAD);
        Checks.due("p 65, n 0", s.share(0, 65, 1, 0, 0), CowStore.BAD);
        Checks.due("q 65, n 0", s.share(0, 0, 1, 65, 0), CowStore.BAD);
        Checks.due("p greatest", s.share(0, Integer.MAX_VALUE, 1, 0, 64), CowStore.BAD);
        Checks.due("nothing was shared: differ(1, 2)", s.differ(1, 2), 0);
    }

    private static void promise8Read() {
        CowStore s = new CowStore();
        s.create();
        s.write(0, 0, Integer.MIN_VALUE);
        s.write(0, 63, Integer.MAX_VALUE);
        s.write(0, 1, -1);
        Checks.due("read(0, 0)", s.read(0, 0), Integer.MIN_VALUE);
        Checks.due("read(0, 63)", s.read(0, 63), Integer.MAX_VALUE);
        Checks.due("read(0, 1)", s.read(0, 1), -1);
        Checks.due("read(0, 2)", s.read(0, 2), CowStore.NONE);
        Checks.due("count(3)", s.count(3), 0);
    }

    private static void promise8ReadHeals() {
        for (int disk = 0; disk < 2; disk++) {
            CowStore s = Checks.filled(3);
            s.spoil(disk, 1);
            Checks.due("read(0, 0)", s.read(0, 0), 100);
            Checks.due("another block heals nothing: count(2)", s.count(2), 1);
            Checks.due("read(0, 1)", s.read(0, 1), 101);
            Checks.due("count(2)", s.count(2), 0);
            Checks.due("count(3)", s.count(3), 1);
            s.lose(disk);
            Checks.due("no healing on a LOST disk: read(0, 1)", s.read(0, 1), 101);
            Checks.due("count(2)", s.count(2), 3);
            Checks.due("count(3)", s.count(3), 1);
            s.replace(disk);
            Checks.due("read(0, 1)", s.read(0, 1), 101);
            Checks.due("count(2)", s.count(2), 2);
            Checks.due("count(3)", s.count(3), 2);
        }
    }

    private static void promise8ReadBroken() {
        CowStore s = Checks.filled(2);
        s.spoil(0, 1);
        s.spoil(1, 1);
        Checks.due("read(0, 1)", s.read(0, 1), CowStore.BROKEN);
        Checks.due("it stays so: read(0, 1)", s.read(0, 1), CowStore.BROKEN);
        Checks.due("count(2)", s.count(2), 2);
        Checks.due("count(3)", s.count(3), 0);
        Checks.due("read(0, 0)", s.read(0, 0), 100);
    }

    private static void promise8WrongInputs() {
        CowStore s = Checks.filled(64);
        Checks.due("read(0, -1)", s.read(0, -1), CowStore.NONE);
        Checks.due("read(0, 64)", s.read(0, 64), CowStore.NONE);
        Checks.due("read(1, 0)", s.read(1, 0), CowStore.NONE);
        Checks.due("read(-1, 64)", s.read(-1, 64), CowStore.NONE);
        Checks.due("read(-1, 0)", s.read(-1, 0), CowStore.NONE);
        Checks.due("read(6, 0)", s.read(6, 0), CowStore.NONE);
    }

    private static void promise9BlockAt() {
        CowStore s = Checks.filled(63);
        s.create();
        for (int p = 0; p < 63; p++) {
            Checks.due("blockAt(0, " + p + ")", s.blockAt(0, p), p);
        }
        Checks.due("blockAt(0, 63)", s.blockAt(0, 63), -1);
        Checks.due("blockAt(1, 0)", s.blockAt(1, 0), -1);
        Checks.due("blockAt(0, -1)", s.blockAt(0, -1), -1);
        Checks.due("blockAt(0, 64)", s.blockAt(0, 64), -1);
        Checks.due("blockAt(1, -1)", s.blockAt(1, -1), -1);
        Checks.due("blockAt(2, 0)", s.blockAt(2, 0), -1);
        Checks.due("blockAt(-1, 64)", s.blockAt(-1, 64), -1);
        Checks.due("blockAt(6, 0)", s.blockAt(6, 0), -1);
        s.spoil(0, 5);
        s.blockAt(0, 5);
        Checks.due("it does not LOOK: count(2)", s.count(2), 1);
    }
}
