/** The boundary cases that promises 1 to 4 name, each sentence by itself. */
public final class VolumesEdgesTest {
    public static void main(String[] args) {
        promise1NoVolumes();
        promise1BothDisksPresent();
        promise1ScrubAtBlock0();
        promise2TheLeastThatIsNotThere();
        promise2AllPlacesEmpty();
        promise2WritableAfterAFrozenOne();
        promise2FullIfThereAreAll();
        promise3OfAnEmptyVolume();
        promise3OfAFullVolume();
        promise3TheLeastThatIsNotThere();
        promise3FrozenIfFrozen();
        promise3FullIfThereAreAll();
        promise3WhenNoBlockIsFree();
        promise3BadIfNotThere();
        promise3BadFirst();
        promise4AnEmptyVolume();
        promise4NoBlockBecomesFree();
        promise4ABlockAtAllPlacesCountsOnce();
        promise4AllBlocksBecomeFree();
        promise4NotThereAnyMore();
        promise4BadIfItWasNot();
        Checks.end();
    }

    private static void promise1NoVolumes() {
        Checks.sentence("1: No volumes");
        CowStore s = new CowStore();
        for (int v = 0; v < 6; v++) {
            Checks.due("destroy(" + v + ")", s.destroy(v), CowStore.BAD);
        }
        for (int v = 0; v < 6; v++) {
            Checks.due("create()", s.create(), v);
        }
        Checks.due("no block is in use: count(0)", s.count(0), 0);
    }

    private static void promise1BothDisksPresent() {
        Checks.sentence("1: both disks PRESENT");
        CowStore s = Checks.filled(1);
        Checks.due("spoil(0, 0)", s.spoil(0, 0), true);
        Checks.due("read(0, 0)", s.read(0, 0), 100);
        Checks.due("spoil(1, 0)", s.spoil(1, 0), true);
        Checks.due("read(0, 0)", s.read(0, 0), 100);
        Checks.due("both were HEALED: count(3)", s.count(3), 2);
        Checks.due("replace(0)", s.replace(0), false);
        Checks.due("replace(1)", s.replace(1), false);
    }

    private static void promise1ScrubAtBlock0() {
        Checks.sentence("1: the SCRUB at block 0");
        CowStore s = Checks.filled(2);
        Checks.due("count(4)", s.count(4), 0);
        s.spoil(0, 0);
        s.spoil(0, 1);
        Checks.due("scrub(1)", s.scrub(1), 1);
        Checks.due("block 0 was HEALED: spoil(0, 0)", s.spoil(0, 0), true);
        Checks.due("block 1 was not: spoil(0, 1)", s.spoil(0, 1), false);
    }

    private static void promise2TheLeastThatIsNotThere() {
        Checks.sentence("2: The least volume that is not there");
        CowStore s = new CowStore();
        for (int v = 0; v < 6; v++) {
            s.create();
        }
        for (int v = 5; v >= 0; v--) {
            s.destroy(v);
            Checks.due("the only one: create()", s.create(), v);
        }
        s.destroy(5);
        s.destroy(0);
        s.destroy(3);
        Checks.due("create()", s.create(), 0);
        Checks.due("create()", s.create(), 3);
        Checks.due("create()", s.create(), 5);
    }

    private static void promise2AllPlacesEmpty() {
        Checks.sentence("2: all places EMPTY");
        CowStore s = Checks.filled(64);
        s.snapshot(0, false);
        s.destroy(0);
        Checks.due("create()", s.create(), 0);
        for (int p = 0; p < 64; p++) {
            Checks.due("blockAt(0, " + p + ")", s.blockAt(0, p), -1);
            Checks.due("read(0, " + p + ")", s.read(0, p), CowStore.NONE);
        }
    }

    private static void promise2WritableAfterAFrozenOne() {
        Checks.sentence("2: is there from now on, WRITABLE");
        CowStore s = Checks.filled(1);
        s.snapshot(0, true);
        s.destroy(1);
        Checks.due("create()", s.create(), 1);
        Checks.due("write(1, 0, 1)", s.write(1, 0, 1), 1);
        Checks.due("punch(1, 0)", s.punch(1, 0), 1);
        Checks.due("share(0, 0, 1, 0, 1)", s.share(0, 0, 1, 0, 1), 1);
        Checks.due("receive(1)", s.receive(1), 0);
    }

    private static void promise2FullIfThereAreAll() {
        Checks.sentence("2: FULL if there are all");
        Checks.due("create()", Twins.crowded().create(), CowStore.FULL);
        Twins.unchanged("create()", Twins::crowded, CowStore::create);
    }

    private static void promise3OfAnEmptyVolume() {
        Checks.sentence("3: with all blocks that volume v has at its places");
        CowStore s = new CowStore();
        s.create();
        Checks.due("snapshot(0, false)", s.snapshot(0, false), 1);
        Checks.due("differ(0, 1)", s.differ(0, 1), 0);
        Checks.due("count(0)", s.count(0), 0);
        Checks.due("write(1, 0, 1)", s.write(1, 0, 1), 0);
        Checks.due("read(0, 0)", s.read(0, 0), CowStore.NONE);
    }

    private static void promise3OfAFullVolume() {
        Checks.sentence("3: with all blocks that volume v has at its places");
        CowStore s = Checks.filled(64);
        Checks.due("snapshot(0, true)", s.snapshot(0, true), 1);
        for (int p = 0; p < 64; p++) {
            Checks.due("blockAt(1, " + p + ")", s.blockAt(1, p), p);
            Checks.due("holders(" + p + ")", s.holders(p), 2);
        }
    }

    private static void promise3TheLeastThatIsNotThere() {
        Checks.sentence("3: The same");
        CowStore s = Checks.filled(1);
        for (int v = 1; v < 6; v++) {
            Checks.due("snapshot(0, false)", s.snapshot(0, false), v);
        }
        s.destroy(4);
        s.destroy(0);
        Checks.due("snapshot(5, false)", s.snapshot(5, false), 0);
        Checks.due("snapshot(5, false)", s.snapshot(5, false), 4);
    }

    private static void promise3FrozenIfFrozen() {
        Checks.sentence("3: FROZEN if frozen");
        CowStore s = Checks.filled(1);
        Checks.due("snapshot(0, true)", s.snapshot(0, true), 1);
        Checks.due("snapshot(0, false)", s.snapshot(0, false), 2);
        Checks.due("of a FROZEN one: snapshot(1, false)", s.snapshot(1, false), 3);
        Checks.due("FROZEN: punch(1, 0)", s.punch(1, 0), CowStore.BAD);
        Checks.due("punch(2, 0)", s.punch(2, 0), 0);
        Checks.due("punch(3, 0)", s.punch(3, 0), 0);
        Checks.due("volume 0 stays WRITABLE: punch(0, 0)", s.punch(0, 0), 0);
        s.destroy(1);
        Checks.due("where a FROZEN one was: snapshot(0, false)", s.snapshot(0, false), 1);
        Checks.due("punch(1, 0)", s.punch(1, 0), 0);
    }

    private static void promise3FullIfThereAreAll() {
        Checks.sentence("3: The same (FULL if there are all)");
        Checks.due("snapshot(0, true)", Twins.crowded().snapshot(0, true), CowStore.FULL);
        Checks.due("snapshot(5, false)", Twins.crowded().snapshot(5, false), CowStore.FULL);
        Twins.unchanged("snapshot(0, true)", Twins::crowded, s -> s.snapshot(0, true));
    }

    private static void promise3WhenNoBlockIsFree() {
        Checks.sentence("3: with all blocks that volume v has at its places");
        CowStore s = Checks.full();
        Checks.due("no block is needed: snapshot(0, false)", s.snapshot(0, false), 2);
        Checks.due("blockAt(2, 63)", s.blockAt(2, 63), 63);
        Checks.due("count(0)", s.count(0), 80);
    }

    private static void promise3BadIfNotThere() {
        Checks.sentence("3: BAD (first) if v is not there");
        Checks.due("snapshot(3, false)", Twins.busy().snapshot(3, false), CowStore.BAD);
        Checks.due("snapshot(-1, false)", Twins.busy().snapshot(-1, false), CowStore.BAD);
        Checks.due("snapshot(6, false)", Twins.busy().snapshot(6, false), CowStore.BAD);
        Twins.unchanged("snapshot(3, false)", Twins::busy, s -> s.snapshot(3, false));
        CowStore s = new CowStore();
        Checks.due("the one that would be made: snapshot(0, true)", s.snapshot(0, true), CowStore.BAD);
        Checks.due("create()", s.create(), 0);
    }

    private static void promise3BadFirst() {
        Checks.sentence("3: BAD (first)");
        CowStore s = Twins.crowded();
        Checks.due("snapshot(6, true)", s.snapshot(6, true), CowStore.BAD);
        Checks.due("snapshot(-1, true)", s.snapshot(-1, true), CowStore.BAD);
    }

    private static void promise4AnEmptyVolume() {
        Checks.sentence("4: how many blocks became FREE by that");
        CowStore s = Checks.filled(1);
        s.create();
        Checks.due("destroy(1)", s.destroy(1), 0);
        Checks.due("count(0)", s.count(0), 1);
    }

    private static void promise4NoBlockBecomesFree() {
        Checks.sentence("4: how many blocks became FREE by that");
        CowStore s = Checks.filled(64);
        s.snapshot(0, true);
        Checks.due("destroy(0)", s.destroy(0), 0);
        Checks.due("count(0)", s.count(0), 64);
        Checks.due("read(1, 63)", s.read(1, 63), 163);
    }

    private static void promise4ABlockAtAllPlacesCountsOnce() {
        Checks.sentence("4: how many blocks became FREE by that");
        CowStore s = Checks.filled(1);
        for (int n = 1; n < 64; n += n) {
            s.share(0, 0, 0, n, n);
        }
        Checks.due("holders(0)", s.holders(0), 64);
        Checks.due("destroy(0)", s.destroy(0), 1);
    }

    private static void promise4AllBlocksBecomeFree() {
        Checks.sentence("4: how many blocks became FREE by that");
        CowStore s = Checks.full();
        Checks.due("destroy(0)", s.destroy(0), 64);
        Checks.due("destroy(1)", s.destroy(1), 16);
        Checks.due("count(0)", s.count(0), 0);
        Checks.due("holders(79)", s.holders(79), 0);
    }

    private static void promise4NotThereAnyMore() {
        Checks.sentence("4: Volume v is not there any more");
        CowStore s = Checks.filled(2);
        s.snapshot(0, true);
        s.create();
        Checks.due("FROZEN: destroy(1)", s.destroy(1), 0);
        Checks.due("write(1, 0, 1)", s.write(1, 0, 1), CowStore.BAD);
        Checks.due("read(1, 0)", s.read(1, 0), CowStore.NONE);
        Checks.due("blockAt(1, 0)", s.blockAt(1, 0), -1);
        Checks.due("own(1)", s.own(1), CowStore.BAD);
        Checks.due("differ(0, 1)", s.differ(0, 1), CowStore.BAD);
        Checks.due("send(0, 1)", s.send(0, 1), CowStore.BAD);
        Checks.due("holders(0)", s.holders(0), 1);
        Checks.due("own(0)", s.own(0), 2);
        Checks.due("the next one is: own(2)", s.own(2), 0);
    }

    private static void promise4BadIfItWasNot() {
        Checks.sentence("4: BAD if it was not");
        CowStore s = Checks.filled(1);
        Checks.due("never there: destroy(1)", s.destroy(1), CowStore.BAD);
        Checks.due("destroy(0)", s.destroy(0), 1);
        Checks.due("again: destroy(0)", s.destroy(0), CowStore.BAD);
        Checks.due("destroy(-1)", s.destroy(-1), CowStore.BAD);
        Checks.due("destroy(6)", s.destroy(6), CowStore.BAD);
        Twins.unchanged("destroy(3)", Twins::busy, t -> t.destroy(3));
        Twins.unchanged("destroy(6)", Twins::crowded, t -> t.destroy(6));
        Twins.unchanged("destroy(-1)", Twins::crowded, t -> t.destroy(-1));
    }
}
