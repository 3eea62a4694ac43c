/** Promises 19 to 21: send, receive, entry. */
public final class StreamTest {
    private static final long NO_ENTRY = CowStore.BROKEN + 100;

    public static void main(String[] args) {
        promise19SendAgainstAVolume();
        promise19SendAll();
        promise19SendHeals();
        promise19SendBroken();
        promise19SendBrokenLooksNoFurther();
        promise19WrongInputs();
        promise20Receive();
        promise20ReceiveOntoItsOwnSource();
        promise20ReceiveWhenFull();
        promise20ReceiveOnALostDisk();
        promise20WrongInputs();
        promise21Entry();
        promise21WrongInputs();
        Checks.end();
    }

    private static void promise19SendAgainstAVolume() {
        CowStore s = Checks.filled(4);
        s.snapshot(0, true);
        s.write(0, 63, 7);
        s.write(0, 1, 8);
        s.punch(0, 2);
        Checks.due("send(0, 1)", s.send(0, 1), 3);
        Checks.due("entry(0)", s.entry(0), 1 + 64 * 8);
        Checks.due("entry(1)", s.entry(1), CowStore.NONE + 2);
        Checks.due("entry(2)", s.entry(2), 63 + 64 * 7);
        Checks.due("entry(3)", s.entry(3), NO_ENTRY);
        Checks.due("count(5)", s.count(5), 3);
        Checks.due("the other way: send(1, 0)", s.send(1, 0), 3);
        Checks.due("entry(0)", s.entry(0), 1 + 64 * 101);
        Checks.due("entry(1)", s.entry(1), 2 + 64 * 102);
        Checks.due("entry(2)", s.entry(2), CowStore.NONE + 63);
        Checks.due("with itself: send(0, 0)", s.send(0, 0), 0);
        Checks.due("count(5)", s.count(5), 0);
        Checks.due("entry(0)", s.entry(0), NO_ENTRY);
    }

    private static void promise19SendAll() {
        CowStore s = Checks.filled(64);
        Checks.due("send(0, -1)", s.send(0, -1), 64);
        for (int k = 0; k < 64; k++) {
            Checks.due("entry(" + k + ")", s.entry(k), k + 64 * (100 + k));
        }
        s.create();
        Checks.due("all are EMPTY: send(1, -1)", s.send(1, -1), 0);
        Checks.due("all without a value: send(1, 0)", s.send(1, 0), 64);
        Checks.due("entry(63)", s.entry(63), CowStore.NONE + 63);
        s.write(1, 5, 1);
        Checks.due("send(1, -1)", s.send(1, -1), 1);
        Checks.due("entry(0)", s.entry(0), 5 + 64);
        s.write(1, 5, 2);
        s.destroy(1);
        Checks.due("the STREAM keeps what it got: entry(0)", s.entry(0), 5 + 64);
    }

    private static void promise19SendHeals() {
        CowStore s = Checks.filled(4);
        s.snapshot(0, false);
        s.write(1, 0, 1);
        s.punch(1, 3);
        s.spoil(0, 0);
        s.spoil(1, 1);
        s.spoil(0, 3);
        s.spoil(1, 4);
        Checks.due("send(1, 0)", s.send(1, 0), 2);
        Checks.due("only the blocks sent are LOOKED AT: count(3)", s.count(3), 1);
        Checks.due("count(2)", s.count(2), 3);
        Checks.due("send(0, -1)", s.send(0, -1), 4);
        Checks.due("count(3)", s.count(3), 4);
        s.lose(0);
        Checks.due("with a LOST disk: send(0, -1)", s.send(0, -1), 4);
        Checks.due("entry(3)", s.entry(3), 3 + 64 * 103);
        Checks.due("count(3)", s.count(3), 4);
    }

    private static void promise19SendBroken() {
        CowStore s = Checks.filled(64);
        Checks.due("send(0, -1)", s.send(0, -1), 64);
        s.spoil(0, 63);
        s.spoil(1, 63);
        Checks.due("send(0, -1)", s.send(0, -1), -3 - 63);
        Checks.due("count(5)", s.count(5), 0);
        Checks.due("entry(0)", s.entry(0), NO_ENTRY);
        s.spoil(0, 0);
        s.spoil(1, 0);
        Checks.due("the first one: send(0, -1)", s.send(0, -1), -3);
        s.snapshot(0, false);
        Checks.due("BROKEN, but no difference: send(1, 0)", s.send(1, 0), 0);
        s.punch(1, 0);
        s.write(1, 5, 1);
        Checks.due("BROKEN in the other volume alone: send(1, 0)", s.send(1, 0), 2);
        Checks.due("entry(0)", s.entry(0), CowStore.NONE);
        Checks.due("send(0, 1)", s.send(0, 1), -3);
        Checks.due("receive(1) of nothing", s.receive(1), 0);
    }

    private static void promise19SendBrokenLooksNoFurther() {
        CowStore s = Checks.filled(5);
        s.spoil(0, 1);
        s.spoil(0, 2);
        s.spoil(1, 2);
        s.spoil(0, 3);
        Checks.due("send(0, -1)", s.send(0, -1), -3 - 2);
        Checks.due("the one before it is HEALED: count(3)", s.count(3), 1);
        Checks.due("count(2)", s.count(2), 3);
        Checks.due("that behind it is not: spoil(0, 3)", s.spoil(0, 3), false);
        Checks.due("spoil(0, 1)", s.spoil(0, 1), true);
    }

    private static void promise19WrongInputs() {
        CowStore s = Checks.filled(3);
        s.send(0, -1);
        s.spoil(0, 1);
        Checks.due("send(1, 0)", s.send(1, 0), CowStore.BAD);
        Checks.due("send(0, 1)", s.send(0, 1), CowStore.BAD);
        Checks.due("send(-1, 0)", s.send(-1, 0), CowStore.BAD);
        Checks.due("send(-1, -1)", s.send(-1, -1), CowStore.BAD);
        Checks.due("send(0, -2)", s.send(0, -2), CowStore.BAD);
        Checks.due("send(0, 6)", s.send(0, 6), CowStore.BAD);
        Checks.due("send(6, -1)", s.send(6, -1), CowStore.BAD);
        Checks.due("the STREAM stays: count(5)", s.count(5), 3);
        Checks.due("entry(2)", s.entry(2), 2 + 64 * 102);
        Checks.due("count(3)", s.count(3), 0);
    }

    private static void promise20Receive() {
        CowStore s = Checks.filled(3);
        s.snapshot(0, true);
        s.write(0, 1, 7);
        s.punch(0, 2);
        s.write(0, 63, 8);
        s.send(0, 1);
        s.snapshot(1, false);
        Checks.due("receive(2)", s.receive(2), 3);
        Checks.due("read(2, 0)", s.read(2, 0), 100);
        Checks.due("read(2, 1)", s.read(2, 1), 7);
        Checks.due("read(2, 2)", s.read(2, 2), CowStore.NONE);
        Checks.due("read(2, 63)", s.read(2, 63), 8);
        Checks.due("WRITTEN, not shared: blockAt(2, 1)", s.blockAt(2, 1), 5);
        Checks.due("blockAt(2, 63)", s.blockAt(2, 63), 6);
        Checks.due("the STREAM stays: count(5)", s.count(5), 3);
        s.create();
        Checks.due("receive(3)", s.receive(3), 3);
        Checks.due("read(3, 0)", s.read(3, 0), CowStore.NONE);
        Checks.due("read(3, 63)", s.read(3, 63), 8);
        Checks.due("again, in other blocks: receive(3)", s.receive(3), 3);
        Checks.due("blockAt(3, 1)", s.blockAt(3, 1), 9);
        Checks.due("blockAt(3, 63)", s.blockAt(3, 63), 7);
    }

    private static void promise20ReceiveOntoItsOwnSource() {
        CowStore s = Checks.filled(3);
        s.send(0, -1);
        Checks.due("receive(0)", s.receive(0), 3);
        Checks.due("blockAt(0, 0)", s.blockAt(0, 0), 3);
        Checks.due("blockAt(0, 1)", s.blockAt(0, 1), 0);
        Checks.due("blockAt(0, 2)", s.blockAt(0, 2), 1);
        Checks.due("read(0, 2)", s.read(0, 2), 102);
        Checks.due("an empty STREAM", Checks.filled(1).receive(0), 0);
    }

    private static void promise20ReceiveWhenFull() {
        CowStore s = Checks.filled(50);
        s.send(0, -1);
        s.create();
        Checks.due("receive(1)", s.receive(1), 30);
        Checks.due("count(0)", s.count(0), 80);
        Checks.due("read(1, 29)", s.read(1, 29), 129);
        Checks.due("read(1, 30)", s.read(1, 30), CowStore.NONE);
        Checks.due("receive(1) again", s.receive(1), 0);

        // A place made EMPTY frees the block that the next entry takes.
        CowStore t = Checks.full();
        t.snapshot(1, true);
        t.punch(1, 3);
        t.punch(0, 0);
        t.write(1, 4, 9);
        t.send(1, 2);
        t.write(0, 1, 1);
        t.write(0, 0, 1);
        Checks.due("count(0)", t.count(0), 80);
        Checks.due("receive(0)", t.receive(0), 2);
        Checks.due("blockAt(0, 3)", t.blockAt(0, 3), -1);
        Checks.due("blockAt(0, 4)", t.blockAt(0, 4), 3);
        Checks.due("none without a block is FULL", t.send(2, 1) == 2 ? t.receive(0) : -9, 1);
    }

    private static void promise20ReceiveOnALostDisk() {
        CowStore s = Checks.filled(3);
        s.send(0, -1);
        s.create();
        s.lose(0);
        s.lose(1);
        Checks.due("receive(1)", s.receive(1), 3);
        Checks.due("read(1, 0)", s.read(1, 0), CowStore.BROKEN);
        s.replace(1);
        Checks.due("receive(1)", s.receive(1), 3);
        Checks.due("read(1, 0)", s.read(1, 0), 100);
        Checks.due("count(2)", s.count(2), 9);
    }

    private static void promise20WrongInputs() {
        CowStore s = Checks.filled(3);
        s.snapshot(0, true);
        s.send(0, -1);
        Checks.due("receive(-1)", s.receive(-1), CowStore.BAD);
        Checks.due("receive(2)", s.receive(2), CowStore.BAD);
        Checks.due("receive(6)", s.receive(6), CowStore.BAD);
        Checks.due("FROZEN: receive(1)", s.receive(1), CowStore.BAD);
        Checks.due("differ(0, 1)", s.differ(0, 1), 0);
        Checks.due("count(0)", s.count(0), 3);
    }

    private static void promise21Entry() {
        CowStore s = new CowStore();
        s.create();
        s.create();
        s.write(0, 0, Integer.MAX_VALUE);
        s.write(0, 1, Integer.MIN_VALUE);
        s.write(0, 2, -1);
        s.write(0, 3, 0);
        s.write(1, 62, 5);
        s.write(0, 63, 1 << 25);
        Checks.due("send(0, 1)", s.send(0, 1), 6);
        Checks.due("entry(0)", s.entry(0), 64L * Integer.MAX_VALUE);
        Checks.due("entry(1)", s.entry(1), 1 + 64L * Integer.MIN_VALUE);
        Checks.due("entry(2)", s.entry(2), -62);
        Checks.due("entry(3)", s.entry(3), 3);
        Checks.due("entry(4)", s.entry(4), CowStore.NONE + 62);
        Checks.due("entry(5)", s.entry(5), 63 + (64L << 25));
        s.receive(1);
        Checks.due("read(1, 1)", s.read(1, 1), Integer.MIN_VALUE);
    }

    private static void promise21WrongInputs() {
        CowStore s = Checks.filled(2);
        Checks.due("empty: entry(0)", s.entry(0), NO_ENTRY);
        s.send(0, -1);
        Checks.due("entry(-1)", s.entry(-1), NO_ENTRY);
        Checks.due("entry(2)", s.entry(2), NO_ENTRY);
        Checks.due("entry(64)", s.entry(64), NO_ENTRY);
        Checks.due("entry(least)", s.entry(Integer.MIN_VALUE), NO_ENTRY);
        Checks.due("entry(greatest)", s.entry(Integer.MAX_VALUE), NO_ENTRY);
    }
}
