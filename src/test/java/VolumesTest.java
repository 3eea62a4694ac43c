/** Promises 1 to 4: a new object, create, snapshot, destroy. */
public final class VolumesTest {
    public static void main(String[] args) {
        promise1NewObject();
        promise1ObjectsAreApart();
        promise2Create();
        promise2CreateAfterDestroyIsEmptyAndWritable();
        promise3Snapshot();
        promise3FrozenAndWritable();
        promise3SnapshotsPartWays();
        promise3WrongInputs();
        promise4Destroy();
        promise4DestroyFrozen();
        promise4WrongInputs();
        Checks.end();
    }

    private static void promise1NewObject() {
        CowStore s = new CowStore();
        for (int v = -1; v <= 6; v++) {
            Checks.due("new: own(" + v + ")", s.own(v), CowStore.BAD);
            Checks.due("new: read(" + v + ", 0)", s.read(v, 0), CowStore.NONE);
            Checks.due("new: blockAt(" + v + ", 0)", s.blockAt(v, 0), -1);
            Checks.due("new: write(" + v + ", 0, 1)", s.write(v, 0, 1), CowStore.BAD);
        }
        for (int what = 0; what <= 5; what++) {
            Checks.due("new: count(" + what + ")", s.count(what), 0);
        }
        Checks.due("new: holders(0)", s.holders(0), 0);
        Checks.due("new: entry(0)", s.entry(0), CowStore.BROKEN + 100);
        Checks.due("new: replace(0)", s.replace(0), false);
        Checks.due("new: replace(1)", s.replace(1), false);
        Checks.due("new: lose(0)", s.lose(0), 0);
        Checks.due("new: lose(1)", s.lose(1), 0);
    }

    private static void promise1ObjectsAreApart() {
        CowStore a = Checks.filled(2);
        CowStore b = new CowStore();
        Checks.due("apart: count(0)", b.count(0), 0);
        Checks.due("apart: create()", b.create(), 0);
        Checks.due("apart: read(0, 0)", b.read(0, 0), CowStore.NONE);
        Checks.due("apart: read(0, 1)", a.read(0, 1), 101);
    }

    private static void promise2Create() {
        CowStore s = new CowStore();
        for (int v = 0; v < 6; v++) {
            Checks.due("create()", s.create(), v);
            Checks.due("own(" + v + ")", s.own(v), 0);
        }
        Checks.due("create() with all there", s.create(), CowStore.FULL);
        Checks.due("destroy(4)", s.destroy(4), 0);
        Checks.due("destroy(2)", s.destroy(2), 0);
        Checks.due("create() takes the least", s.create(), 2);
        Checks.due("create() takes the next", s.create(), 4);
        Checks.due("create() with all there again", s.create(), CowStore.FULL);
        for (int p = 0; p < 64; p++) {
            Checks.due("created: blockAt(5, " + p + ")", s.blockAt(5, p), -1);
        }
    }

    private static void promise2CreateAfterDestroyIsEmptyAndWritable() {
        CowStore s = Checks.filled(64);
        Checks.due("snapshot(0, true)", s.snapshot(0, true), 1);
        Checks.due("destroy(1)", s.destroy(1), 0);
        Checks.due("create()", s.create(), 1);
        for (int p = 0; p < 64; p++) {
            Checks.due("again: blockAt(1, " + p + ")", s.blockAt(1, p), -1);
        }
        Checks.due("again: write(1, 0, 7)", s.write(1, 0, 7), 64);
    }

    private static void promise3Snapshot() {
        CowStore s = Checks.filled(64);
        Checks.due("punch(0, 10)", s.punch(0, 10), 1);
        Checks.due("snapshot(0, false)", s.snapshot(0, false), 1);
        for (int p = 0; p < 64; p++) {
            Checks.due("snapshot: blockAt(1, " + p + ")", s.blockAt(1, p), p == 10 ? -1 : p);
        }
        Checks.due("snapshot: count(0)", s.count(0), 63);
        Checks.due("snapshot: holders(63)", s.holders(63), 2);
        Checks.due("snapshot of a snapshot", s.snapshot(1, true), 2);
        Checks.due("snapshot of a frozen one", s.snapshot(2, false), 3);
        Checks.due("snapshot: holders(63)", s.holders(63), 4);
        Checks.due("destroy(0)", s.destroy(0), 0);
        Checks.due("snapshot takes the least", s.snapshot(3, false), 0);
        Checks.due("snapshot: read(0, 63)", s.read(0, 63), 163);
    }

    private static void promise3FrozenAndWritable() {
        CowStore s = Checks.filled(1);
        s.snapshot(0, true);
        s.snapshot(0, false);
        s.snapshot(1, false);
        Checks.due("frozen: write(1, 0, 1)", s.write(1, 0, 1), CowStore.BAD);
        Checks.due("frozen: punch(1, 0)", s.punch(1, 0), CowStore.BAD);
        Checks.due("frozen: share to 1", s.share(0, 0, 1, 1, 1), CowStore.BAD);
        Checks.due("frozen: receive(1)", s.receive(1), CowStore.BAD);
        Checks.due("frozen: read(1, 0)", s.read(1, 0), 100);
        Checks.due("writable: write(2, 0, 1)", s.write(2, 0, 1), 1);
        Checks.due("writable from a frozen one: write(3, 0, 2)", s.write(3, 0, 2), 2);
        Checks.due("the first one stays writable: write(0, 0, 3)", s.write(0, 0, 3), 3);
    }

    private static void promise3SnapshotsPartWays() {
        CowStore s = Checks.filled(2);
        s.snapshot(0, false);
        Checks.due("write(0, 0, 1)", s.write(0, 0, 1), 2);
        Checks.due("read(1, 0)", s.read(1, 0), 100);
        Checks.due("write(1, 1, 2)", s.write(1, 1, 2), 3);
        Checks.due("read(0, 1)", s.read(0, 1), 101);
        Checks.due("read(0, 0)", s.read(0, 0), 1);
        Checks.due("read(1, 1)", s.read(1, 1), 2);
    }

    private static void promise3WrongInputs() {
        CowStore s = Checks.filled(1);
        Checks.due("snapshot(1, true)", s.snapshot(1, true), CowStore.BAD);
        Checks.due("snapshot(-1, true)", s.snapshot(-1, true), CowStore.BAD);
        Checks.due("snapshot(6, false)", s.snapshot(6, false), CowStore.BAD);
        Checks.due("nothing was made: create()", s.create(), 1);
        for (int v = 2; v < 6; v++) {
            s.create();
        }
        Checks.due("snapshot(0, true) with all there", s.snapshot(0, true), CowStore.FULL);
        Checks.due("BAD goes first", s.snapshot(6, true), CowStore.BAD);
        Checks.due("FULL changes nothing: holders(0)", s.holders(0), 1);
    }

    private static void promise4Destroy() {
        CowStore s = Checks.filled(10);
        s.snapshot(0, false);
        s.write(1, 0, 1);
        s.write(1, 20, 2);
        s.share(1, 20, 1, 30, 1);
        s.punch(0, 5);
        Checks.due("a block at two places counts once: destroy(1)", s.destroy(1), 3);
        Checks.due("destroy(1) again", s.destroy(1), CowStore.BAD);
        Checks.due("gone: read(1, 1)", s.read(1, 1), CowStore.NONE);
        Checks.due("gone: blockAt(1, 1)", s.blockAt(1, 1), -1);
        Checks.due("gone: write(1, 1, 1)", s.write(1, 1, 1), CowStore.BAD);
        Checks.due("count(0)", s.count(0), 9);
        Checks.due("destroy(0)", s.destroy(0), 9);
        Checks.due("count(0)", s.count(0), 0);
        Checks.due("create()", s.create(), 0);
        Checks.due("freed blocks are taken again: write(0, 0, 1)", s.write(0, 0, 1), 0);
    }

    private static void promise4DestroyFrozen() {
        CowStore s = Checks.filled(64);
        s.snapshot(0, true);
        Checks.due("shared: destroy(0)", s.destroy(0), 0);
        Checks.due("frozen: destroy(1)", s.destroy(1), 64);
    }

    private static void promise4WrongInputs() {
        CowStore s = Checks.filled(1);
        Checks.due("destroy(1)", s.destroy(1), CowStore.BAD);
        Checks.due("destroy(-1)", s.destroy(-1), CowStore.BAD);
        Checks.due("destroy(6)", s.destroy(6), CowStore.BAD);
        Checks.due("count(0)", s.count(0), 1);
    }
}
