/** The boundary cases that promises 14 to 18 name, each sentence by itself. */
public final class CountsEdgesTest {
    private static final int LEAST = Integer.MIN_VALUE;
    private static final int GREATEST = Integer.MAX_VALUE;

    public static void main(String[] args) {
        promise14BlocksNoneAndAll();
        promise14BrokenNoneAndAll();
        promise14BrokenOnesThatAreFree();
        promise14BadCopiesNoneAndAll();
        promise14BadCopiesOfFreeBlocks();
        promise14HealedSoFar();
        promise14HealedModulo();
        promise14ScrubFirstAndLast();
        promise14EntriesNoneAndAll();
        promise14BadForOthers();
        promise14ChangesNothing();
        promise15OfAFreeBlock();
        promise15AtAllPlaces();
        promise15OfNoBlock();
        promise16OfAnEmptyVolume();
        promise16OfTheOnlyVolume();
        promise16ABlockAtTwoPlacesCountsOnce();
        promise16ThatNoOtherVolumeHas();
        promise16BadIfNotThere();
        promise17NoneAndAll();
        promise17WithItself();
        promise17OneHasNone();
        promise17TheSameValueInAnotherBlock();
        promise17BadIfOneIsNotThere();
        promise18FirstAndLast();
        promise18IfThereIsNone();
        promise18IfAVolumeIsNotThere();
        promises15To18ChangeNothing();
        Checks.end();
    }

    private static void promise14BlocksNoneAndAll() {
        Checks.sentence("14: What 0: how many blocks are not FREE");
        CowStore s = new CowStore();
        Checks.due("none: count(0)", s.count(0), 0);
        s.create();
        Checks.due("a volume alone takes none: count(0)", s.count(0), 0);
        s = Checks.full();
        Checks.due("all: count(0)", s.count(0), 80);
        s.snapshot(0, true);
        Checks.due("at two places: count(0)", s.count(0), 80);
        s.punch(1, 15);
        Checks.due("count(0)", s.count(0), 79);
    }

    private static void promise14BrokenNoneAndAll() {
        Checks.sentence("14: 1: how many of these are BROKEN");
        CowStore s = Checks.full();
        Checks.due("none: count(1)", s.count(1), 0);
        s.lose(0);
        Checks.due("one copy is GOOD: count(1)", s.count(1), 0);
        s.spoil(1, 79);
        Checks.due("count(1)", s.count(1), 1);
        s.lose(1);
        Checks.due("all: count(1)", s.count(1), 80);
    }

    private static void promise14BrokenOnesThatAreFree() {
        Checks.sentence("14: 1: how many of these (that are not FREE)");
        CowStore s = Checks.filled(2);
        Checks.breakBlocks(s, 0, 1);
        s.punch(0, 0);
        Checks.due("count(1)", s.count(1), 1);
        s.destroy(0);
        Checks.due("count(1)", s.count(1), 0);
        s.lose(0);
        s.lose(1);
        Checks.due("none is there: count(1)", s.count(1), 0);
    }

    private static void promise14BadCopiesNoneAndAll() {
        Checks.sentence("14: 2: how many copies are BAD");
        CowStore s = Checks.full();
        Checks.due("none: count(2)", s.count(2), 0);
        s.lose(1);
        Checks.due("all of one disk: count(2)", s.count(2), 80);
        s.lose(0);
        Checks.due("all: count(2)", s.count(2), 160);
        s.replace(0);
        s.replace(1);
        Checks.due("they stay: count(2)", s.count(2), 160);
    }

    private static void promise14BadCopiesOfFreeBlocks() {
        Checks.sentence("Terms: A block that is not FREE has .. two COPIES");
        CowStore s = Checks.filled(2);
        Checks.breakBlocks(s, 0);
        s.spoil(0, 1);
        s.punch(0, 0);
        Checks.due("count(2)", s.count(2), 1);
        s.write(0, 1, 5);
        Checks.due("count(2)", s.count(2), 0);
    }

    private static void promise14HealedSoFar() {
        Checks.sentence("14: 3: how many copies were HEALED so far");
        CowStore s = Checks.filled(3);
        Checks.due("none: count(3)", s.count(3), 0);
        s.spoil(0, 0);
        s.read(0, 0);
        Checks.due("by read: count(3)", s.count(3), 1);
        s.spoil(0, 0);
        s.send(0, -1);
        Checks.due("the same one again, by send: count(3)", s.count(3), 2);
        s.spoil(1, 0);
        s.scrub(1);
        Checks.due("by scrub: count(3)", s.count(3), 3);
        s.destroy(0);
        Checks.due("it stays: count(3)", s.count(3), 3);
    }

    // No 512 calls can heal a million copies, so this run goes on behind them, where answers are free: it is the only
    // way to see the modulus at all.
    private static void promise14HealedModulo() {
        Checks.sentence("14: 3: .. modulo 1000000");
        CowStore s = Checks.full();
        for (int round = 0; round < 12499; round++) {
            s.lose(0);
            s.replace(0);
            s.scrub(80);
        }
        Checks.due("count(3)", s.count(3), 999920);
        s.lose(0);
        s.replace(0);
        Checks.due("scrub(79)", s.scrub(79), 79);
        Checks.due("one below: count(3)", s.count(3), 999999);
        Checks.due("the millionth: scrub(1)", s.scrub(1), 1);
        Checks.due("count(3)", s.count(3), 0);
        s.spoil(0, 0);
        Checks.due("read(0, 0)", s.read(0, 0), 100);
        Checks.due("the next one: count(3)", s.count(3), 1);
    }

    private static void promise14ScrubFirstAndLast() {
        Checks.sentence("14: 4: the block at which the SCRUB is");
        CowStore s = new CowStore();
        for (int i = 0; i < 80; i++) {
            Checks.due("count(4)", s.count(4), i);
            s.scrub(1);
        }
        Checks.due("round: count(4)", s.count(4), 0);
    }

    private static void promise14EntriesNoneAndAll() {
        Checks.sentence("14: 5: how many entries the STREAM has");
        CowStore s = Checks.filled(64);
        Checks.due("at first: count(5)", s.count(5), 0);
        s.send(0, -1);
        Checks.due("count(5)", s.count(5), 64);
        s.create();
        s.receive(1);
        Checks.due("FULL on the way, it stays: count(5)", s.count(5), 64);
        s.send(0, 0);
        Checks.due("count(5)", s.count(5), 0);
    }

    private static void promise14BadForOthers() {
        Checks.sentence("14: BAD for others");
        for (int what : new int[] {-1, 6, 7, LEAST, GREATEST}) {
            Checks.due("count(" + what + ")", Twins.busy().count(what), CowStore.BAD);
        }
    }

    private static void promise14ChangesNothing() {
        Checks.sentence("14: count");
        for (int what = -1; what <= 6; what++) {
            int asked = what;
            Twins.unchanged("count(" + what + ")", Twins::crowded, s -> s.count(asked));
        }
    }

    private static void promise15OfAFreeBlock() {
        Checks.sentence("15: At how many places of all volumes a block is");
        CowStore s = Checks.filled(1);
        Checks.due("never written: holders(1)", s.holders(1), 0);
        Checks.due("holders(79)", s.holders(79), 0);
        s.punch(0, 0);
        Checks.due("FREE again: holders(0)", s.holders(0), 0);
    }

    private static void promise15AtAllPlaces() {
        Checks.sentence("15: At how many places of all volumes a block is");
        CowStore s = Checks.filled(1);
        for (int n = 1; n < 64; n += n) {
            s.share(0, 0, 0, n, n);
        }
        for (int v = 1; v < 6; v++) {
            s.snapshot(0, v == 5);
        }
        Checks.due("holders(0)", s.holders(0), 384);
        Checks.due("count(0)", s.count(0), 1);
        s.punch(0, 63);
        Checks.due("holders(0)", s.holders(0), 383);
        for (int v = 0; v < 5; v++) {
            Checks.due("destroy(" + v + ")", s.destroy(v), 0);
        }
        Checks.due("holders(0)", s.holders(0), 64);
        Checks.due("destroy(5)", s.destroy(5), 1);
        Checks.due("holders(0)", s.holders(0), 0);
    }

    private static void promise15OfNoBlock() {
        Checks.sentence("15: At how many places of all volumes a block is");
        for (int block : new int[] {-1, 80, 160, LEAST, GREATEST}) {
            Checks.due("EMPTY places do not count: holders(" + block + ")", Twins.busy().holders(block), 0);
        }
        Checks.due("the last one: holders(79)", Checks.full().holders(79), 1);
        Checks.due("the first one: holders(0)", Checks.full().holders(0), 1);
    }

    private static void promise16OfAnEmptyVolume() {
        Checks.sentence("16: How many blocks volume v has that no other volume has");
        CowStore s = Checks.filled(3);
        s.create();
        Checks.due("own(1)", s.own(1), 0);
        Checks.due("own(0)", s.own(0), 3);
    }

    private static void promise16OfTheOnlyVolume() {
        Checks.sentence("16: How many blocks volume v has that no other volume has");
        CowStore s = Checks.filled(64);
        Checks.due("own(0)", s.own(0), 64);
        s.snapshot(0, true);
        Checks.due("another has all: own(0)", s.own(0), 0);
        Checks.due("own(1)", s.own(1), 0);
        s.destroy(0);
        Checks.due("FROZEN: own(1)", s.own(1), 64);
        Checks.due("block 79: own(1)", Checks.full().own(1), 16);
    }

    private static void promise16ABlockAtTwoPlacesCountsOnce() {
        Checks.sentence("16: How many blocks");
        CowStore s = Checks.filled(1);
        s.share(0, 0, 0, 63, 1);
        Checks.due("own(0)", s.own(0), 1);
        s.create();
        s.share(0, 0, 1, 10, 1);
        Checks.due("own(0)", s.own(0), 0);
        s.punch(1, 10);
        Checks.due("own(0)", s.own(0), 1);
    }

    private static void promise16ThatNoOtherVolumeHas() {
        Checks.sentence("16: that no other volume has");
        CowStore s = Checks.filled(2);
        s.create();
        s.share(0, 0, 1, 63, 1);
        Checks.due("at whatever place: own(0)", s.own(0), 1);
        Checks.due("own(1)", s.own(1), 0);
    }

    private static void promise16BadIfNotThere() {
        Checks.sentence("16: BAD if it is not there");
        for (int v : new int[] {3, 5, -1, 6, LEAST, GREATEST}) {
            Checks.due("own(" + v + ")", Twins.busy().own(v), CowStore.BAD);
        }
        CowStore s = Checks.filled(1);
        s.destroy(0);
        Checks.due("not there any more: own(0)", s.own(0), CowStore.BAD);
    }

    private static void promise17NoneAndAll() {
        Checks.sentence("17: At how many places volumes v and w do not have the same block");
        CowStore s = Checks.filled(64);
        s.snapshot(0, true);
        Checks.due("none: differ(0, 1)", s.differ(0, 1), 0);
        s.share(0, 0, 0, 1, 63);
        Checks.due("all but the first: differ(0, 1)", s.differ(0, 1), 63);
        s.create();
        Checks.due("all: differ(0, 2)", s.differ(0, 2), 64);
        Checks.due("all: differ(2, 0)", s.differ(2, 0), 64);
    }

    private static void promise17WithItself() {
        Checks.sentence("17: do not have the same block");
        CowStore s = Checks.filled(63);
        Checks.due("differ(0, 0)", s.differ(0, 0), 0);
        Checks.breakBlocks(s, 0);
        Checks.due("BROKEN: differ(0, 0)", s.differ(0, 0), 0);
    }

    private static void promise17OneHasNone() {
        Checks.sentence("17: (or one has none)");
        CowStore s = Checks.filled(1);
        s.create();
        s.write(1, 63, 1);
        Checks.due("differ(0, 1)", s.differ(0, 1), 2);
        Checks.due("differ(1, 0)", s.differ(1, 0), 2);
    }

    private static void promise17TheSameValueInAnotherBlock() {
        Checks.sentence("17: the same block");
        CowStore s = Checks.filled(1);
        s.create();
        s.write(1, 0, 100);
        Checks.due("differ(0, 1)", s.differ(0, 1), 1);
    }

    private static void promise17BadIfOneIsNotThere() {
        Checks.sentence("17: BAD if one is not there");
        for (int v : new int[] {3, 5, -1, 6, LEAST, GREATEST}) {
            Checks.due("differ(" + v + ", 0)", Twins.busy().differ(v, 0), CowStore.BAD);
            Checks.due("differ(0, " + v + ")", Twins.busy().differ(0, v), CowStore.BAD);
            Checks.due("differ(" + v + ", " + v + ")", Twins.busy().differ(v, v), CowStore.BAD);
        }
    }

    private static void promise18FirstAndLast() {
        Checks.sentence("18: The k-th (0 first) such place");
        CowStore s = Checks.filled(64);
        s.create();
        for (int k = 0; k < 64; k++) {
            Checks.due("difference(0, 1, " + k + ")", s.difference(0, 1, k), k);
        }
        s.share(0, 1, 1, 1, 62);
        Checks.due("difference(0, 1, 0)", s.difference(0, 1, 0), 0);
        Checks.due("difference(0, 1, 1)", s.difference(0, 1, 1), 63);
        Checks.due("difference(1, 0, 1)", s.difference(1, 0, 1), 63);
    }

    private static void promise18IfThereIsNone() {
        Checks.sentence("18: -1 if there is none");
        CowStore s = Checks.filled(64);
        s.create();
        for (int k : new int[] {-1, 64, LEAST, GREATEST}) {
            Checks.due("difference(0, 1, " + k + ")", s.difference(0, 1, k), -1);
        }
        Checks.due("with itself: difference(0, 0, 0)", s.difference(0, 0, 0), -1);
        s.share(0, 0, 1, 0, 63);
        Checks.due("difference(0, 1, 0)", s.difference(0, 1, 0), 63);
        Checks.due("difference(0, 1, 1)", s.difference(0, 1, 1), -1);
        s.share(0, 63, 1, 63, 1);
        Checks.due("difference(0, 1, 0)", s.difference(0, 1, 0), -1);
    }

    private static void promise18IfAVolumeIsNotThere() {
        Checks.sentence("18: -1 if there is none");
        for (int v : new int[] {3, 5, -1, 6, LEAST, GREATEST}) {
            Checks.due("difference(" + v + ", 0, 0)", Twins.busy().difference(v, 0, 0), -1);
            Checks.due("difference(0, " + v + ", 0)", Twins.busy().difference(0, v, 0), -1);
        }
    }

    private static void promises15To18ChangeNothing() {
        Checks.sentence("15 to 18: no block is LOOKED AT");
        Twins.unchanged("holders(3)", Twins::crowded, s -> s.holders(3));
        Twins.unchanged("own(0)", Twins::crowded, s -> s.own(0));
        Twins.unchanged("differ(0, 1)", Twins::crowded, s -> s.differ(0, 1));
        Twins.unchanged("difference(0, 1, 3)", Twins::crowded, s -> s.difference(0, 1, 3));
    }
}
