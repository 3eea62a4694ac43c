/** The boundary cases that promises 19 to 22 name, each sentence by itself. */
public final class StreamEdgesTest {
    private static final int LEAST = Integer.MIN_VALUE;
    private static final int GREATEST = Integer.MAX_VALUE;
    private static final long NO_ENTRY = CowStore.BROKEN + 100;

    public static void main(String[] args) {
        promise19NoPlaces();
        promise19AllPlacesWithValues();
        promise19AllPlacesWithout();
        promise19FirstAndLastPlace();
        promise19AgainstNoVolume();
        promise19ABlockAtTwoPlaces();
        promise19OnlyTheseAreLookedAt();
        promise19TheValuesOfThatTime();
        promise19BadIfVIsNotThere();
        promise19BadIfWIsNotThere();
        promise19BrokenAtTheFirstPlace();
        promise19BrokenAtTheLastPlace();
        promise19TheFirstOneThatIsBroken();
        promise19BrokenButNotOneOfThese();
        promise19BrokenLeavesTheStreamEmpty();
        promise19NoneBehindItIsLookedAt();
        promise20AnEmptyStream();
        promise20AllEntries();
        promise20TheStreamStays();
        promise20FullAtTheFirstEntry();
        promise20FullOnTheWay();
        promise20FullAtTheLastEntry();
        promise20NothingBehindTheFullOneIsDone();
        promise20EntriesWithoutAValueAreNeverFull();
        promise20BadIfNotThere();
        promise20BadIfNotWritable();
        promise21FirstAndLastPlace();
        promise21LeastAndGreatestValue();
        promise21WithoutAValue();
        promise21NoSuchEntry();
        promise22DifferBothEmpty();
        promise22DifferenceBothEmpty();
        promise22SendBothEmpty();
        Checks.end();
    }

    private static void promise19NoPlaces() {
        Checks.sentence("19: STREAM becomes the places .. How many");
        CowStore s = Checks.filled(3);
        s.snapshot(0, true);
        s.send(0, -1);
        Checks.due("the same: send(0, 1)", s.send(0, 1), 0);
        Checks.due("count(5)", s.count(5), 0);
        s.send(0, -1);
        Checks.due("itself: send(0, 0)", s.send(0, 0), 0);
        Checks.due("count(5)", s.count(5), 0);
        s.send(0, -1);
        s.create();
        Checks.due("all EMPTY: send(2, -1)", s.send(2, -1), 0);
        Checks.due("count(5)", s.count(5), 0);
    }

    private static void promise19AllPlacesWithValues() {
        Checks.sentence("19: the places, in order, .. with the value of the block");
        CowStore s = new CowStore();
        s.create();
        s.create();
        for (int p = 63; p >= 0; p--) {
            s.write(0, p, p - 30);
        }
        Checks.due("send(0, -1)", s.send(0, -1), 64);
        for (int k = 0; k < 64; k++) {
            Checks.due("entry(" + k + ")", s.entry(k), k + 64L * (k - 30));
        }
        Checks.due("send(0, 1)", s.send(0, 1), 64);
        Checks.due("entry(0)", s.entry(0), 64L * -30);
        Checks.due("entry(63)", s.entry(63), 63 + 64L * 33);
    }

    private static void promise19AllPlacesWithout() {
        Checks.sentence("19: or none");
        CowStore s = Checks.filled(64);
        s.create();
        Checks.due("send(1, 0)", s.send(1, 0), 64);
        for (int k = 0; k < 64; k++) {
            Checks.due("entry(" + k + ")", s.entry(k), CowStore.NONE + k);
        }
    }

    private static void promise19FirstAndLastPlace() {
        Checks.sentence("19: at which volume v does not have what volume w has");
        CowStore s = Checks.filled(64);
        s.snapshot(0, false);
        s.write(0, 63, 5);
        s.punch(0, 0);
        s.write(0, 30, 130);
        Checks.due("send(0, 1)", s.send(0, 1), 3);
        Checks.due("entry(0)", s.entry(0), CowStore.NONE);
        Checks.due("the same value in another block: entry(1)", s.entry(1), 30 + 64 * 130);
        Checks.due("entry(2)", s.entry(2), 63 + 64 * 5);
        Checks.due("entry(3)", s.entry(3), NO_ENTRY);
    }

    private static void promise19AgainstNoVolume() {
        Checks.sentence("19: (w -1: all places that are not EMPTY)");
        CowStore s = new CowStore();
        s.create();
        s.write(0, 63, 2);
        s.write(0, 0, 1);
        s.write(0, 30, 3);
        s.punch(0, 30);
        Checks.due("send(0, -1)", s.send(0, -1), 2);
        Checks.due("entry(0)", s.entry(0), 64);
        Checks.due("entry(1)", s.entry(1), 63 + 64 * 2);
        s.snapshot(0, true);
        Checks.due("FROZEN: send(1, -1)", s.send(1, -1), 2);
    }

    private static void promise19ABlockAtTwoPlaces() {
        Checks.sentence("19: the places, in order");
        CowStore s = Checks.filled(1);
        s.share(0, 0, 0, 63, 1);
        s.spoil(1, 0);
        Checks.due("send(0, -1)", s.send(0, -1), 2);
        Checks.due("entry(0)", s.entry(0), 64 * 100);
        Checks.due("entry(1)", s.entry(1), 63 + 64 * 100);
        Checks.due("HEALED once: count(3)", s.count(3), 1);
    }

    private static void promise19OnlyTheseAreLookedAt() {
        Checks.sentence("19: with the value of the block, LOOKED AT");
        CowStore s = Checks.filled(4);
        s.snapshot(0, false);
        s.write(1, 2, 7);
        s.punch(1, 3);
        for (int block = 0; block < 5; block++) {
            s.spoil(0, block);
        }
        Checks.due("send(1, 0)", s.send(1, 0), 2);
        Checks.due("count(3)", s.count(3), 1);
        Checks.due("both have it: spoil(0, 0)", s.spoil(0, 0), false);
        Checks.due("w alone has it: spoil(0, 2)", s.spoil(0, 2), false);
        Checks.due("w alone has it: spoil(0, 3)", s.spoil(0, 3), false);
        Checks.due("v has it: spoil(0, 4)", s.spoil(0, 4), true);
    }

    private static void promise19TheValuesOfThatTime() {
        Checks.sentence("19: STREAM becomes");
        CowStore s = Checks.filled(2);
        s.send(0, -1);
        s.write(0, 0, 1);
        s.punch(0, 1);
        s.write(0, 5, 2);
        s.destroy(0);
        Checks.due("count(5)", s.count(5), 2);
        Checks.due("entry(0)", s.entry(0), 64 * 100);
        Checks.due("entry(1)", s.entry(1), 1 + 64 * 101);
    }

    private static void promise19BadIfVIsNotThere() {
        Checks.sentence("19: BAD if v .. is not there");
        for (int v : new int[] {3, 5, -1, 6, LEAST, GREATEST}) {
            Checks.due("send(" + v + ", 0)", Twins.busy().send(v, 0), CowStore.BAD);
            Checks.due("send(" + v + ", -1)", Twins.busy().send(v, -1), CowStore.BAD);
            Checks.due("send(" + v + ", " + v + ")", Twins.busy().send(v, v), CowStore.BAD);
            Twins.unchanged("send(" + v + ", 0)", Twins::busy, s -> s.send(v, 0));
            Twins.unchanged("send(" + v + ", -1)", Twins::busy, s -> s.send(v, -1));
        }
    }

    private static void promise19BadIfWIsNotThere() {
        Checks.sentence("19: BAD if .. w, is not there");
        for (int w : new int[] {3, 5, -2, 6, LEAST, GREATEST}) {
            Checks.due("send(0, " + w + ")", Twins.busy().send(0, w), CowStore.BAD);
            Twins.unchanged("send(0, " + w + ")", Twins::busy, s -> s.send(0, w));
        }
        Checks.due("a healable copy stays: send(1, 6)", Twins.crowded().send(1, 6), CowStore.BAD);
        Twins.unchanged("send(0, 6)", Twins::crowded, s -> s.send(0, 6));
    }

    private static void promise19BrokenAtTheFirstPlace() {
        Checks.sentence("19: -3 - its place");
        CowStore s = Checks.filled(64);
        Checks.breakBlocks(s, 0);
        Checks.due("send(0, -1)", s.send(0, -1), -3);
        s.create();
        Checks.due("send(0, 1)", s.send(0, 1), -3);
    }

    private static void promise19BrokenAtTheLastPlace() {
        Checks.sentence("19: -3 - its place");
        CowStore s = Checks.filled(64);
        Checks.breakBlocks(s, 63);
        Checks.due("send(0, -1)", s.send(0, -1), -66);
        s.create();
        s.share(0, 0, 1, 0, 63);
        Checks.due("its place, not its entry: send(0, 1)", s.send(0, 1), -66);
    }

    private static void promise19TheFirstOneThatIsBroken() {
        Checks.sentence("19: (of the first one)");
        CowStore s = Checks.filled(64);
        Checks.breakBlocks(s, 50, 7, 20);
        Checks.due("send(0, -1)", s.send(0, -1), -3 - 7);
        s.share(0, 7, 0, 2, 1);
        Checks.due("at two places: send(0, -1)", s.send(0, -1), -3 - 2);
    }

    private static void promise19BrokenButNotOneOfThese() {
        Checks.sentence("19: If one of these blocks is BROKEN");
        CowStore s = Checks.filled(3);
        s.snapshot(0, false);
        Checks.breakBlocks(s, 0, 1);
        s.write(1, 1, 5);
        Checks.due("both have 0, w alone has 1: send(1, 0)", s.send(1, 0), 1);
        Checks.due("entry(0)", s.entry(0), 1 + 64 * 5);
        s.punch(1, 0);
        Checks.due("w alone has 0, too: send(1, 0)", s.send(1, 0), 2);
        Checks.due("entry(0)", s.entry(0), CowStore.NONE);
        Checks.due("v has it: send(0, 1)", s.send(0, 1), -3);
    }

    private static void promise19BrokenLeavesTheStreamEmpty() {
        Checks.sentence("19: and STREAM is empty");
        CowStore s = Checks.filled(10);
        s.send(0, -1);
        Checks.breakBlocks(s, 9);
        Checks.due("send(0, -1)", s.send(0, -1), -3 - 9);
        Checks.due("count(5)", s.count(5), 0);
        Checks.due("entry(0)", s.entry(0), NO_ENTRY);
        Checks.due("entry(8)", s.entry(8), NO_ENTRY);
        Checks.due("receive(0)", s.receive(0), 0);
        Checks.due("blockAt(0, 0)", s.blockAt(0, 0), 0);
    }

    private static void promise19NoneBehindItIsLookedAt() {
        Checks.sentence("19: no block behind it is LOOKED AT");
        CowStore s = Checks.filled(64);
        s.spoil(0, 0);
        s.spoil(0, 29);
        Checks.breakBlocks(s, 30);
        s.spoil(0, 31);
        s.spoil(1, 63);
        Checks.due("send(0, -1)", s.send(0, -1), -3 - 30);
        Checks.due("those before it are: count(3)", s.count(3), 2);
        Checks.due("spoil(0, 0)", s.spoil(0, 0), true);
        Checks.due("spoil(0, 29)", s.spoil(0, 29), true);
        Checks.due("spoil(0, 31)", s.spoil(0, 31), false);
        Checks.due("spoil(1, 63)", s.spoil(1, 63), false);
    }

    private static void promise20AnEmptyStream() {
        Checks.sentence("20: How many were done");
        Checks.due("at first: receive(0)", Checks.filled(1).receive(0), 0);
        Twins.unchanged("receive(1)", Checks::full, s -> s.receive(1));
    }

    private static void promise20AllEntries() {
        Checks.sentence("20: The entries of the STREAM .. are done in order");
        CowStore s = new CowStore();
        s.create();
        s.create();
        for (int p = 0; p < 32; p++) {
            s.write(0, 2 * p, p);
            s.write(1, 2 * p + 1, 99);
        }
        s.send(0, 1);
        Checks.due("receive(1)", s.receive(1), 64);
        for (int p = 0; p < 64; p++) {
            Checks.due("read(1, " + p + ")", s.read(1, p), p % 2 == 0 ? p / 2 : CowStore.NONE);
        }
        Checks.due("WRITTEN in order: blockAt(1, 0)", s.blockAt(1, 0), 64);
        Checks.due("place 1 was EMPTY then: blockAt(1, 2)", s.blockAt(1, 2), 1);
    }

    private static void promise20TheStreamStays() {
        Checks.sentence("20: the STREAM, which stays");
        CowStore s = Checks.filled(2);
        s.create();
        s.send(0, -1);
        Checks.due("receive(1)", s.receive(1), 2);
        Checks.due("count(5)", s.count(5), 2);
        Checks.due("entry(1)", s.entry(1), 1 + 64 * 101);
        Checks.due("again: receive(1)", s.receive(1), 2);
        Checks.due("onto where it is from: receive(0)", s.receive(0), 2);
        Checks.due("count(5)", s.count(5), 2);
    }

    private static void promise20FullAtTheFirstEntry() {
        Checks.sentence("20: up to the first that is FULL");
        CowStore s = Checks.full();
        s.send(0, -1);
        Checks.due("receive(1)", s.receive(1), 0);
        Checks.due("read(1, 0)", s.read(1, 0), 200);
        Checks.due("count(5)", s.count(5), 64);
        Twins.unchanged("receive(1)", Twins::crowded, t -> t.receive(1));
    }

    private static void promise20FullOnTheWay() {
        Checks.sentence("20: up to the first that is FULL. How many were done");
        CowStore s = Checks.filled(50);
        s.send(0, -1);
        s.create();
        Checks.due("receive(1)", s.receive(1), 30);
        Checks.due("blockAt(1, 29)", s.blockAt(1, 29), 79);
        Checks.due("blockAt(1, 30)", s.blockAt(1, 30), -1);
        Checks.due("blockAt(1, 49)", s.blockAt(1, 49), -1);
        Checks.due("count(0)", s.count(0), 80);
    }

    private static void promise20FullAtTheLastEntry() {
        Checks.sentence("20: up to the first that is FULL");
        CowStore s = Checks.filled(40);
        s.send(0, -1);
        s.create();
        Checks.due("the last FREE block for the last entry: receive(1)", s.receive(1), 40);
        Checks.due("count(0)", s.count(0), 80);
        CowStore t = Checks.filled(40);
        t.send(0, -1);
        t.write(0, 40, 1);
        t.create();
        Checks.due("none for the last entry: receive(1)", t.receive(1), 39);
        Checks.due("blockAt(1, 39)", t.blockAt(1, 39), -1);
    }

    private static void promise20NothingBehindTheFullOneIsDone() {
        Checks.sentence("20: up to the first that is FULL");
        CowStore s = Checks.full();
        s.create();
        s.punch(0, 0);
        s.write(2, 10, 1);
        s.share(0, 63, 1, 63, 1);
        s.punch(0, 63);
        // Entries: 10 with a value, 63 without one.
        s.snapshot(2, false);
        s.share(1, 63, 2, 63, 1);
        s.punch(2, 10);
        Checks.due("send(3, 2)", s.send(3, 2), 2);
        Checks.due("entry(0)", s.entry(0), 10 + 64);
        Checks.due("entry(1)", s.entry(1), CowStore.NONE + 63);
        Checks.due("count(0)", s.count(0), 80);
        Checks.due("receive(1)", s.receive(1), 0);
        Checks.due("the place stays: blockAt(1, 63)", s.blockAt(1, 63), 63);
    }

    private static void promise20EntriesWithoutAValueAreNeverFull() {
        Checks.sentence("20: or the place is EMPTY then");
        CowStore s = Checks.full();
        s.create();
        s.send(2, 0);
        Checks.due("receive(1)", s.receive(1), 64);
        Checks.due("count(0)", s.count(0), 64);
        Checks.due("blockAt(1, 15)", s.blockAt(1, 15), -1);
        Checks.due("EMPTY ones, too: receive(2)", s.receive(2), 64);
    }

    private static void promise20BadIfNotThere() {
        Checks.sentence("20: BAD if v is not there");
        for (int v : new int[] {3, 5, -1, 6, LEAST, GREATEST}) {
            Checks.due("receive(" + v + ")", Twins.busy().receive(v), CowStore.BAD);
            Twins.unchanged("receive(" + v + ")", Twins::busy, s -> s.receive(v));
        }
        Checks.due("an empty STREAM: receive(0)", new CowStore().receive(0), CowStore.BAD);
    }

    private static void promise20BadIfNotWritable() {
        Checks.sentence("20: BAD if v is .. not WRITABLE");
        Checks.due("receive(1)", Twins.busy().receive(1), CowStore.BAD);
        Checks.due("receive(5)", Twins.crowded().receive(5), CowStore.BAD);
        Twins.unchanged("receive(1)", Twins::busy, s -> s.receive(1));
        CowStore s = Checks.filled(1);
        s.snapshot(0, true);
        Checks.due("an empty STREAM: receive(1)", s.receive(1), CowStore.BAD);
    }

    private static void promise21FirstAndLastPlace() {
        Checks.sentence("21: the place, and 64 times its value");
        CowStore s = new CowStore();
        s.create();
        s.write(0, 0, 0);
        s.write(0, 63, 0);
        s.send(0, -1);
        Checks.due("entry(0)", s.entry(0), 0);
        Checks.due("entry(1)", s.entry(1), 63);
    }

    private static void promise21LeastAndGreatestValue() {
        Checks.sentence("21: 64 times its value as a long");
        CowStore s = new CowStore();
        s.create();
        s.write(0, 0, LEAST);
        s.write(0, 1, GREATEST);
        s.write(0, 62, -1);
        s.write(0, 63, 1 << 26);
        s.send(0, -1);
        Checks.due("entry(0)", s.entry(0), -137438953472L);
        Checks.due("entry(1)", s.entry(1), 137438953409L);
        Checks.due("entry(2)", s.entry(2), -2);
        Checks.due("entry(3)", s.entry(3), 4294967359L);
    }

    private static void promise21WithoutAValue() {
        Checks.sentence("21: NONE + its place if it has no value");
        CowStore s = Checks.filled(64);
        s.create();
        s.share(0, 1, 1, 1, 62);
        s.send(1, 0);
        Checks.due("entry(0)", s.entry(0), 1000000000000L);
        Checks.due("entry(1)", s.entry(1), 1000000000063L);
        s.send(0, 1);
        Checks.due("with a value in its place: entry(0)", s.entry(0), 64 * 100);
    }

    private static void promise21NoSuchEntry() {
        Checks.sentence("21: BROKEN + 100 if there is no such entry");
        CowStore s = Checks.filled(64);
        Checks.due("an empty STREAM: entry(0)", s.entry(0), 1000000000101L);
        s.send(0, -1);
        for (int k : new int[] {-1, 64, 65, LEAST, GREATEST}) {
            Checks.due("entry(" + k + ")", s.entry(k), 1000000000101L);
        }
        s.snapshot(0, false);
        s.write(1, 5, 1);
        s.send(1, 0);
        Checks.due("a shorter STREAM: entry(1)", s.entry(1), 1000000000101L);
        Checks.due("entry(63)", s.entry(63), 1000000000101L);
    }

    private static CowStore placesEmptyInBoth() {
        CowStore s = new CowStore();
        s.create();
        s.create();
        s.write(0, 0, 1);
        s.write(1, 63, 1);
        s.write(0, 30, 1);
        s.punch(0, 30);
        s.write(1, 40, 1);
        s.punch(1, 40);
        return s;
    }

    private static void promise22DifferBothEmpty() {
        Checks.sentence("22: differ: a place that both volumes have EMPTY");
        CowStore s = placesEmptyInBoth();
        Checks.due("differ(0, 1)", s.differ(0, 1), 2);
        Checks.due("differ(1, 0)", s.differ(1, 0), 2);
        s.punch(0, 0);
        s.punch(1, 63);
        Checks.due("all EMPTY: differ(0, 1)", s.differ(0, 1), 0);
        Checks.due("with itself: differ(0, 0)", s.differ(0, 0), 0);
    }

    private static void promise22DifferenceBothEmpty() {
        Checks.sentence("22: difference: a place that both volumes have EMPTY");
        CowStore s = placesEmptyInBoth();
        Checks.due("difference(0, 1, 0)", s.difference(0, 1, 0), 0);
        Checks.due("difference(0, 1, 1)", s.difference(0, 1, 1), 63);
        Checks.due("difference(0, 1, 2)", s.difference(0, 1, 2), -1);
        s.punch(0, 0);
        s.punch(1, 63);
        Checks.due("all EMPTY: difference(0, 1, 0)", s.difference(0, 1, 0), -1);
    }

    private static void promise22SendBothEmpty() {
        Checks.sentence("22: send: a place that both volumes have EMPTY");
        CowStore s = placesEmptyInBoth();
        Checks.due("send(0, 1)", s.send(0, 1), 2);
        Checks.due("entry(0)", s.entry(0), 64);
        Checks.due("entry(1)", s.entry(1), CowStore.NONE + 63);
        s.punch(0, 0);
        s.punch(1, 63);
        Checks.due("all EMPTY: send(0, 1)", s.send(0, 1), 0);
    }
}
