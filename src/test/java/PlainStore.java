import java.util.ArrayList;
import java.util.HashSet;
import java.util.List;
import java.util.Set;
import java.util.TreeMap;

/**
 * The document once more, read as plainly as possible and held in another way than in CowStore:
 * what is FREE is never kept, but found by going over all volumes.
 */
final class PlainStore {
    private static final class Volume {
        final TreeMap<Integer, Integer> blocks = new TreeMap<>();
        boolean frozen;
    }

    private record Entry(int place, Integer value) {
    }

    private final TreeMap<Integer, Volume> volumes = new TreeMap<>();
    private final int[] values = new int[80];
    private final Set<List<Integer>> badCopies = new HashSet<>();
    private final Set<Integer> lostDisks = new HashSet<>();
    private List<Entry> stream = new ArrayList<>();
    private int scrubAt = 0;
    private int healed = 0;

    private Set<Integer> used() {
        Set<Integer> used = new HashSet<>();
        for (Volume volume : volumes.values()) {
            used.addAll(volume.blocks.values());
        }
        return used;
    }

    private boolean bad(int disk, int block) {
        return badCopies.contains(List.of(disk, block));
    }

    private boolean broken(int block) {
        return bad(0, block) && bad(1, block);
    }

    private int look(int block) {
        for (int disk = 0; disk < 2; disk++) {
            if (bad(disk, block) && !bad(1 - disk, block) && !lostDisks.contains(disk)) {
                badCopies.remove(List.of(disk, block));
                healed++;
                return 1;
            }
        }
        return 0;
    }

    private boolean noTarget(int v) {
        return !volumes.containsKey(v) || volumes.get(v).frozen;
    }

    private int put(Volume volume, int p, int x) {
        Set<Integer> used = used();
        for (int block = 0; block < 80; block++) {
            if (!used.contains(block)) {
                values[block] = x;
                for (int disk = 0; disk < 2; disk++) {
                    badCopies.remove(List.of(disk, block));
                    if (lostDisks.contains(disk)) {
                        badCopies.add(List.of(disk, block));
                    }
                }
                volume.blocks.put(p, block);
                return block;
            }
        }
        return -2;
    }

    int create() {
        for (int v = 0; v < 6; v++) {
            if (!volumes.containsKey(v)) {
                volumes.put(v, new Volume());
                return v;
            }
        }
        return -2;
    }

    int snapshot(int v, boolean frozen) {
        if (!volumes.containsKey(v)) {
            return -1;
        }
        int made = create();
        if (made >= 0) {
            volumes.get(made).blocks.putAll(volumes.get(v).blocks);
            volumes.get(made).frozen = frozen;
        }
        return made;
    }

    int destroy(int v) {
        int before = used().size();
        return volumes.remove(v) == null ? -1 : before - used().size();
    }

    int write(int v, int p, int x) {
        return noTarget(v) || p < 0 || p > 63 ? -1 : put(volumes.get(v), p, x);
    }

    int punch(int v, int p) {
        if (noTarget(v) || p < 0 || p > 63) {
            return -1;
        }
        int before = used().size();
        volumes.get(v).blocks.remove(p);
        return before - used().size();
    }

    int share(int v, int p, int w, int q, int n) {
        if (!volumes.containsKey(v) || noTarget(w) || n < 0 || n > 64
            || p < 0 || q < 0 || p > 64 - n || q > 64 - n) {
            return -1;
        }
        TreeMap<Integer, Integer> from = new TreeMap<>(volumes.get(v).blocks);
        TreeMap<Integer, Integer> to = volumes.get(w).blocks;
        int changed = 0;
        for (int i = 0; i < n; i++) {
            Integer block = from.get(p + i);
            Integer had = block == null ? to.remove(q + i) : to.put(q + i, block);
            changed += java.util.Objects.equals(block, had) ? 0 : 1;
        }
        return changed;
    }

    long read(int v, int p) {
        int block = blockAt(v, p);
        if (block < 0) {
            return 1000000000000L;
        }
        look(block);
        return broken(block) ? 1000000000001L : values[block];
    }

    int blockAt(int v, int p) {
        return volumes.containsKey(v) ? volumes.get(v).blocks.getOrDefault(p, -1) : -1;
    }

    boolean spoil(int disk, int block) {
        return (disk == 0 || disk == 1) && used().contains(block) && badCopies.add(List.of(disk, block));
    }

    int lose(int disk) {
        if ((disk != 0 && disk != 1) || !lostDisks.add(disk)) {
            return -1;
        }
        int lost = 0;
        for (int block : used()) {
            lost += badCopies.add(List.of(disk, block)) ? 1 : 0;
        }
        return lost;
    }

    boolean replace(int disk) {
        return lostDisks.remove(disk);
    }

    int scrub(int n) {
        if (n < 0 || n > 80) {
            return -1;
        }
        Set<Integer> used = used();
        int found = 0;
        for (int i = 0; i < n; i++) {
            found += used.contains(scrubAt) ? look(scrubAt) : 0;
            scrubAt = scrubAt == 79 ? 0 : scrubAt + 1;
        }
        return found;
    }

    int count(int what) {
        Set<Integer> used = used();
        return switch (what) {
            case 0 -> used.size();
            case 1 -> (int) used.stream().filter(this::broken).count();
            case 2 -> (int) badCopies.stream().filter(copy -> used.contains(copy.get(1))).count();
            case 3 -> healed % 1000000;
            case 4 -> scrubAt;
            case 5 -> stream.size();
            default -> -1;
        };
    }

    int holders(int block) {
        int found = 0;
        for (Volume volume : volumes.values()) {
            for (int other : volume.blocks.values()) {
                found += other == block ? 1 : 0;
            }
        }
        return found;
    }

    int own(int v) {
        if (!volumes.containsKey(v)) {
            return -1;
        }
        Set<Integer> mine = new HashSet<>(volumes.get(v).blocks.values());
        for (int w : volumes.keySet()) {
            if (w != v) {
                mine.removeAll(volumes.get(w).blocks.values());
            }
        }
        return mine.size();
    }

    private List<Integer> differences(int v, int w) {
        List<Integer> places = new ArrayList<>();
        for (int p = 0; p < 64; p++) {
            if (blockAt(v, p) != blockAt(w, p)) {
                places.add(p);
            }
        }
        return places;
    }

    int differ(int v, int w) {
        return volumes.containsKey(v) && volumes.containsKey(w) ? differences(v, w).size() : -1;
    }

    int difference(int v, int w, int k) {
        if (differ(v, w) < 0 || k < 0 || k >= differ(v, w)) {
            return -1;
        }
        return differences(v, w).get(k);
    }

    int send(int v, int w) {
        if (!volumes.containsKey(v) || (w != -1 && !volumes.containsKey(w))) {
            return -1;
        }
        List<Entry> sent = new ArrayList<>();
        for (int p : differences(v, w)) {
            int block = blockAt(v, p);
            if (block >= 0) {
                look(block);
                if (broken(block)) {
                    stream = new ArrayList<>();
                    return -3 - p;
                }
            }
            sent.add(new Entry(p, block < 0 ? null : Integer.valueOf(values[block])));
        }
        stream = sent;
        return sent.size();
    }

    int receive(int v) {
        if (noTarget(v)) {
            return -1;
        }
        int done = 0;
        for (Entry entry : stream) {
            if (entry.value() == null) {
                volumes.get(v).blocks.remove(entry.place());
            } else if (put(volumes.get(v), entry.place(), entry.value()) == -2) {
                break;
            }
            done++;
        }
        return done;
    }

    long entry(int k) {
        if (k < 0 || k >= stream.size()) {
            return 1000000000101L;
        }
        Entry entry = stream.get(k);
        return entry.value() == null ? 1000000000000L + entry.place() : 64L * entry.value() + entry.place();
    }
}
