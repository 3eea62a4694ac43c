/** The boundary cases that 'Terms' names, each sentence by itself. */
public final class TermsEdgesTest {
    private static final int LEAST = Integer.MIN_VALUE;
    private static final int GREATEST = Integer.MAX_VALUE;
    private static final int[] NO_VOLUMES = {-1, 6, 64, LEAST, GREATEST};
    private static final int[] NO_PLACES = {-1, 64, 128, LEAST, GREATEST};
    private static final int[] NO_BLOCKS = {-1, 80, 160, LEAST, GREATEST};
    private static final int[] NO_DISKS = {-1, 2, LEAST, GREATEST};

    public static void main(String[] args) {
        volumesFirstAndLast();
        volumesTooSmallOrTooLarge();
        placesFirstAndLast();
        placesTooSmallOrTooLarge();
        placesOfOneVolumeAreNotThoseOfTheNext();
        blocksFirstAndLast();
        blocksTooSmallOrTooLarge();
        freeIfNoPlaceOfTheVolumeHasIt();
        freeIfNoVolumeHasIt();
        valueLeastAndGreatest();
        disksTooSmallOrTooLarge();
        disksPresentAtFirst();
        writeTakesTheLeastFree();
        writeGetsGoodCopiesOnPresentDisks();
        writeGetsBadCopiesOnALostDisk();
        writeGetsBadCopiesOnTwoLostDisks();
        writeFreesWhatThePlaceHad();
        writeKeepsWhatOtherPlacesHave();
        writeInTheLastFreeBlock();
        writeFull();
        writeFullWhereThePlaceHasTheOnlyHold();
        lookNoCopyBad();
        lookOneCopyBad();
        lookOneCopyBadOnALostDisk();
        lookBothCopiesBad();
        streamEmptyAtFirst();
        Checks.end();
    }

    private static void volumesFirstAndLast() {
        Checks.sentence("VOLUMES 0..5 are there or not");
        CowStore s = new CowStore();
        for (int v = 0; v < 6; v++) {
            Checks.due("not there: own(" + v + ")", s.own(v), CowStore.BAD);
        }
        for (int v = 0; v < 6; v++) {
            Checks.due("create()", s.create(), v);
            Checks.due("there: own(" + v + ")", s.own(v), 0);
            Checks.due("write(" + v + ", 0, 1)", s.write(v, 0, 1), v);
        }
        Checks.due("there is no seventh: create()", s.create(), CowStore.FULL);
    }

    private static void volumesTooSmallOrTooLarge() {
        Checks.sentence("VOLUMES 0..5");
        for (int v : NO_VOLUMES) {
            CowStore s = Twins.crowded();
            Checks.due("snapshot(" + v + ", false)", s.snapshot(v, false), CowStore.BAD);
            Checks.due("destroy(" + v + ")", s.destroy(v), CowStore.BAD);
            Checks.due("write(" + v + ", 0, 1)", s.write(v, 0, 1), CowStore.BAD);
            Checks.due("punch(" + v + ", 0)", s.punch(v, 0), CowStore.BAD);
            Checks.due("share(" + v + ", 0, 0, 0, 1)", s.share(v, 0, 0, 0, 1), CowStore.BAD);
            Checks.due("share(0, 0, " + v + ", 0, 1)", s.share(0, 0, v, 0, 1), CowStore.BAD);
            Checks.due("read(" + v + ", 0)", s.read(v, 0), CowStore.NONE);
            Checks.due("blockAt(" + v + ", 0)", s.blockAt(v, 0), -1);
            Checks.due("own(" + v + ")", s.own(v), CowStore.BAD);
            Checks.due("differ(" + v + ", 0)", s.differ(v, 0), CowStore.BAD);
            Checks.due("differ(0, " + v + ")", s.differ(0, v), CowStore.BAD);
            Checks.due("difference(" + v + ", 0, 0)", s.difference(v, 0, 0), -1);
            Checks.due("difference(0, " + v + ", 0)", s.difference(0, v, 0), -1);
            Checks.due("send(" + v + ", 0)", s.send(v, 0), CowStore.BAD);
            Checks.due("receive(" + v + ")", s.receive(v), CowStore.BAD);
        }
    }

    private static void placesFirstAndLast() {
        Checks.sentence("has PLACES 0..63");
        CowStore s = new CowStore();
        s.create();
        Checks.due("write(0, 0, 1)", s.write(0, 0, 1), 0);
        Checks.due("write(0, 63, 2)", s.write(0, 63, 2), 1);
        Checks.due("read(0, 0)", s.read(0, 0), 1);
        Checks.due("read(0, 63)", s.read(0, 63), 2);
        Checks.due("punch(0, 0)", s.punch(0, 0), 1);
        Checks.due("punch(0, 63)", s.punch(0, 63), 1);
        Checks.due("EMPTY: read(0, 63)", s.read(0, 63), CowStore.NONE);
    }

    private static void placesTooSmallOrTooLarge() {
        Checks.sentence("has PLACES 0..63");
        for (int p : NO_PLACES) {
            CowStore s = Checks.filled(64);
            s.snapshot(0, false);
            s.snapshot(0, false);
            Checks.due("write(1, " + p + ", 1)", s.write(1, p, 1), CowStore.BAD);
            Checks.due("punch(1, " + p + ")", s.punch(1, p), CowStore.BAD);
            Checks.due("share(0, " + p + ", 1, 0, 1)", s.share(0, p, 1, 0, 1), CowStore.BAD);
            Checks.due("share(0, 0, 1, " + p + ", 1)", s.share(0, 0, 1, p, 1), CowStore.BAD);
            Checks.due("read(1, " + p + ")", s.read(1, p), CowStore.NONE);
            Checks.due("blockAt(1, " + p + ")", s.blockAt(1, p), -1);
        }
    }

    private static void placesOfOneVolumeAreNotThoseOfTheNext() {
        Checks.sentence("one that is there .. has PLACES 0..63");
        CowStore s = new CowStore();
        for (int v = 0; v < 6; v++) {
            s.create();
        }
        for (int v = 0; v < 6; v++) {
            s.write(v, 0, 10 + v);
            s.write(v, 63, 20 + v);
        }
        for (int v = 0; v < 6; v++) {
            Checks.due("read(" + v + ", 0)", s.read(v, 0), 10 + v);
            Checks.due("read(" + v + ", 63)", s.read(v, 63), 20 + v);
            Checks.due("own(" + v + ")", s.own(v), 2);
        }
    }

    private static void blocksFirstAndLast() {
        Checks.sentence("BLOCKS are numbered 0..79");
        CowStore s = new CowStore();
        s.create();
        s.create();
        for (int i = 0; i < 80; i++) {
            Checks.due("write no. " + i, s.write(i / 64, i % 64, i), i);
        }
        Checks.due("there is no block 80: write(1, 63, 1)", s.write(1, 63, 1), CowStore.FULL);
        Checks.due("holders(0)", s.holders(0), 1);
        Checks.due("holders(79)", s.holders(79), 1);
        Checks.due("spoil(0, 0)", s.spoil(0, 0), true);
        Checks.due("spoil(1, 79)", s.spoil(1, 79), true);
        Checks.due("read(0, 0)", s.read(0, 0), 0);
        Checks.due("read(1, 15)", s.read(1, 15), 79);
    }

    private static void blocksTooSmallOrTooLarge() {
        Checks.sentence("BLOCKS are numbered 0..79");
        CowStore s = Checks.full();
        for (int block : NO_BLOCKS) {
            Checks.due("holders(" + block + ")", s.holders(block), 0);
            Checks.due("spoil(0, " + block + ")", s.spoil(0, block), false);
            Checks.due("spoil(1, " + block + ")", s.spoil(1, block), false);
        }
        Checks.due("count(2)", s.count(2), 0);
    }

    private static void freeIfNoPlaceOfTheVolumeHasIt() {
        Checks.sentence("one is FREE if no place of any volume has it");
        CowStore s = Checks.filled(1);
        s.share(0, 0, 0, 63, 1);
        Checks.due("place 63 has it yet: punch(0, 0)", s.punch(0, 0), 0);
        Checks.due("count(0)", s.count(0), 1);
        Checks.due("it is not taken: write(0, 5, 1)", s.write(0, 5, 1), 1);
        Checks.due("no place has it: punch(0, 63)", s.punch(0, 63), 1);
        Checks.due("count(0)", s.count(0), 1);
        Checks.due("it is taken: write(0, 6, 2)", s.write(0, 6, 2), 0);
    }

    private static void freeIfNoVolumeHasIt() {
        Checks.sentence("one is FREE if no place of any volume has it");
        CowStore s = Checks.filled(1);
        s.snapshot(0, true);
        Checks.due("volume 1 has it yet: destroy(0)", s.destroy(0), 0);
        Checks.due("count(0)", s.count(0), 1);
        Checks.due("create()", s.create(), 0);
        Checks.due("it is not taken: write(0, 0, 1)", s.write(0, 0, 1), 1);
        Checks.due("no volume has it: destroy(1)", s.destroy(1), 1);
        Checks.due("count(0)", s.count(0), 1);
        Checks.due("it is taken: write(0, 1, 2)", s.write(0, 1, 2), 0);
    }

    private static void valueLeastAndGreatest() {
        Checks.sentence("a VALUE, an int");
        CowStore s = new CowStore();
        s.create();
        int[] values = {LEAST, GREATEST, -1, 0, 1};
        for (int p = 0; p < values.length; p++) {
            s.write(0, p, values[p]);
            Checks.due("read(0, " + p + ")", s.read(0, p), values[p]);
        }
    }

    private static void disksTooSmallOrTooLarge() {
        Checks.sentence("on disks 0 and 1");
        CowStore s = Checks.full();
        for (int disk : NO_DISKS) {
            Checks.due("spoil(" + disk + ", 0)", s.spoil(disk, 0), false);
            Checks.due("lose(" + disk + ")", s.lose(disk), CowStore.BAD);
            Checks.due("replace(" + disk + ")", s.replace(disk), false);
        }
        Checks.due("count(2)", s.count(2), 0);
    }

    private static void disksPresentAtFirst() {
        Checks.sentence("A disk is PRESENT (at first) or LOST");
        for (int disk = 0; disk < 2; disk++) {
            CowStore s = new CowStore();
            Checks.due("at first: replace(" + disk + ")", s.replace(disk), false);
            Checks.due("lose(" + disk + ")", s.lose(disk), 0);
            Checks.due("LOST: lose(" + disk + ")", s.lose(disk), CowStore.BAD);
            Checks.due("the other one is not: lose", s.lose(1 - disk), 0);
        }
    }

    private static void writeTakesTheLeastFree() {
        Checks.sentence("the least FREE block gets the value");
        CowStore s = Checks.full();
        s.punch(1, 15);
        s.punch(0, 40);
        s.punch(0, 0);
        Checks.due("write(0, 50, 1)", s.write(0, 50, 1), 0);
        Checks.due("write(0, 51, 2)", s.write(0, 51, 2), 40);
        Checks.due("what was FREED by that is less: write(0, 52, 3)", s.write(0, 52, 3), 50);
        Checks.due("write(0, 53, 4)", s.write(0, 53, 4), 51);
        Checks.due("read(0, 50)", s.read(0, 50), 1);
    }

    private static void writeGetsGoodCopiesOnPresentDisks() {
        Checks.sentence("GOOD copies on the disks that are PRESENT");
        CowStore s = Checks.filled(1);
        Checks.breakBlocks(s, 0);
        s.punch(0, 0);
        Checks.due("a block that was BROKEN: write(0, 0, 1)", s.write(0, 0, 1), 0);
        Checks.due("count(2)", s.count(2), 0);
        Checks.due("read(0, 0)", s.read(0, 0), 1);
        Checks.due("count(3)", s.count(3), 0);
        Checks.due("spoil(0, 0)", s.spoil(0, 0), true);
        Checks.due("spoil(1, 0)", s.spoil(1, 0), true);
    }

    private static void writeGetsBadCopiesOnALostDisk() {
        Checks.sentence("BAD ones on others");
        for (int disk = 0; disk < 2; disk++) {
            CowStore s = Checks.filled(1);
            s.punch(0, 0);
            s.lose(disk);
            s.write(0, 0, 1);
            Checks.due("count(2)", s.count(2), 1);
            Checks.due("count(1)", s.count(1), 0);
            Checks.due("BAD on the LOST one: spoil(" + disk + ", 0)", s.spoil(disk, 0), false);
            Checks.due("read(0, 0)", s.read(0, 0), 1);
            Checks.due("GOOD on the other one: spoil", s.spoil(1 - disk, 0), true);
        }
    }

    private static void writeGetsBadCopiesOnTwoLostDisks() {
        Checks.sentence("BAD ones on others");
        CowStore s = Checks.filled(1);
        s.punch(0, 0);
        s.lose(0);
        s.lose(1);
        Checks.due("write(0, 0, 1)", s.write(0, 0, 1), 0);
        Checks.due("count(2)", s.count(2), 2);
        Checks.due("count(1)", s.count(1), 1);
        Checks.due("read(0, 0)", s.read(0, 0), CowStore.BROKEN);
        s.replace(0);
        s.replace(1);
        Checks.due("it stays so: read(0, 0)", s.read(0, 0), CowStore.BROKEN);
    }

    private static void writeFreesWhatThePlaceHad() {
        Checks.sentence("in place of what it had (which may be FREE then)");
        CowStore s = Checks.filled(1);
        Checks.due("not in its place: write(0, 0, 1)", s.write(0, 0, 1), 1);
        Checks.due("FREE then: holders(0)", s.holders(0), 0);
        Checks.due("count(0)", s.count(0), 1);
        Checks.due("write(0, 0, 2)", s.write(0, 0, 2), 0);
        Checks.due("FREE then: holders(1)", s.holders(1), 0);
    }

    private static void writeKeepsWhatOtherPlacesHave() {
        Checks.sentence("in place of what it had (which may be FREE then)");
        CowStore s = Checks.filled(1);
        s.share(0, 0, 0, 1, 1);
        s.write(0, 0, 1);
        Checks.due("place 1 has it: holders(0)", s.holders(0), 1);
        Checks.due("read(0, 1)", s.read(0, 1), 100);
        Checks.due("count(0)", s.count(0), 2);
    }

    private static void writeInTheLastFreeBlock() {
        Checks.sentence("If none is FREE it is FULL");
        CowStore s = Checks.full();
        s.punch(1, 15);
        Checks.due("one is FREE: write(1, 15, 1)", s.write(1, 15, 1), 79);
        Checks.due("none is FREE: write(1, 16, 1)", s.write(1, 16, 1), CowStore.FULL);
        s.punch(0, 33);
        Checks.due("one is FREE: write(1, 0, 1)", s.write(1, 0, 1), 33);
        Checks.due("its old block is FREE then: write(1, 1, 1)", s.write(1, 1, 1), 64);
    }

    private static void writeFull() {
        Checks.sentence("If none is FREE it is FULL: nothing changes");
        Checks.due("write(1, 63, 1)", Twins.crowded().write(1, 63, 1), CowStore.FULL);
        Twins.unchanged("write(1, 63, 1)", Twins::crowded, s -> s.write(1, 63, 1));
    }

    private static void writeFullWhereThePlaceHasTheOnlyHold() {
        Checks.sentence("If none is FREE it is FULL: nothing changes");
        Checks.due("write(1, 15, 1)", Checks.full().write(1, 15, 1), CowStore.FULL);
        Twins.unchanged("write(1, 15, 1)", Checks::full, s -> s.write(1, 15, 1));
    }

    private static void lookNoCopyBad() {
        Checks.sentence("if just one copy is BAD");
        CowStore s = Checks.filled(1);
        Checks.due("read(0, 0)", s.read(0, 0), 100);
        Checks.due("scrub(80)", s.scrub(80), 0);
        Checks.due("send(0, -1)", s.send(0, -1), 1);
        Checks.due("nothing was HEALED: count(3)", s.count(3), 0);
        Checks.due("count(2)", s.count(2), 0);
    }

    private static void lookOneCopyBad() {
        Checks.sentence("if just one copy is BAD, and that disk is PRESENT, that copy is GOOD again");
        for (int disk = 0; disk < 2; disk++) {
            CowStore s = Checks.filled(1);
            s.spoil(disk, 0);
            s.lose(1 - disk);
            Checks.due("the other one is LOST, too: read(0, 0)", s.read(0, 0), CowStore.BROKEN);

            CowStore t = Checks.filled(1);
            t.spoil(disk, 0);
            Checks.due("read(0, 0)", t.read(0, 0), 100);
            Checks.due("count(2)", t.count(2), 0);
            Checks.due("count(3)", t.count(3), 1);
            Checks.due("once: read(0, 0)", t.read(0, 0), 100);
            Checks.due("count(3)", t.count(3), 1);
            t.spoil(1 - disk, 0);
            Checks.due("from the copy that was HEALED: read(0, 0)", t.read(0, 0), 100);
        }
    }

    private static void lookOneCopyBadOnALostDisk() {
        Checks.sentence("and that disk is PRESENT");
        for (int disk = 0; disk < 2; disk++) {
            CowStore s = Checks.filled(1);
            s.lose(disk);
            Checks.due("read(0, 0)", s.read(0, 0), 100);
            Checks.due("scrub(80)", s.scrub(80), 0);
            Checks.due("send(0, -1)", s.send(0, -1), 1);
            Checks.due("count(2)", s.count(2), 1);
            Checks.due("count(3)", s.count(3), 0);
            s.replace(disk);
            Checks.due("PRESENT again: scrub(80)", s.scrub(80), 1);
            Checks.due("count(2)", s.count(2), 0);
        }
    }

    private static void lookBothCopiesBad() {
        Checks.sentence("If both are BAD it is BROKEN");
        CowStore s = Checks.filled(1);
        Checks.breakBlocks(s, 0);
        Checks.due("read(0, 0)", s.read(0, 0), CowStore.BROKEN);
        Checks.due("scrub(80)", s.scrub(80), 0);
        Checks.due("send(0, -1)", s.send(0, -1), -3);
        Checks.due("none was HEALED: count(2)", s.count(2), 2);
        Checks.due("count(1)", s.count(1), 1);
        Checks.due("count(3)", s.count(3), 0);
    }

    private static void streamEmptyAtFirst() {
        Checks.sentence("The STREAM .. (at first it is empty)");
        CowStore s = Checks.filled(1);
        Checks.due("count(5)", s.count(5), 0);
        Checks.due("entry(0)", s.entry(0), CowStore.BROKEN + 100);
        Checks.due("receive(0)", s.receive(0), 0);
        Checks.due("blockAt(0, 0)", s.blockAt(0, 0), 0);
    }
}
