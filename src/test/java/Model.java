import java.util.ArrayList;
import java.util.Arrays;
import java.util.List;
import java.util.TreeMap;
import java.util.TreeSet;

/**
 * The document once more, for tests: nothing is kept but the bytes, and every call reads them anew, so
 * that whatever the program keeps beside its bytes is compared with them.
 */
final class Model {
    private static final int NONE = -1;

    /** A record taken apart: what its bytes say once the kept words are back in their places. */
    private static final class Parts {
        int state;
        int parent;
        String name = "";
        int kind;
        int size;
        List<Integer> data = new ArrayList<>();
        List<int[]> runs = new ArrayList<>();

        /** The file's clusters, by their places in the file; holes are left out. */
        TreeMap<Integer, Integer> map() {
            TreeMap<Integer, Integer> map = new TreeMap<>();
            int i = 0;
            for (int[] run : runs) {
                for (int k = 0; k < run[0]; k++, i++) {
                    if (run[1] != NONE) {
                        map.put(i, run[1] + k);
                    }
                }
            }
            return map;
        }

        void setRuns(TreeMap<Integer, Integer> map) {
            runs.clear();
            for (int i = 0; i < (size + 15) / 16; i++) {
                int place = map.getOrDefault(i, NONE);
                int[] last = runs.isEmpty() ? null : runs.get(runs.size() - 1);
                boolean joins = last != null && (place == NONE ? last[1] == NONE
                        : last[1] != NONE && last[1] + last[0] == place);
                if (joins) {
                    last[0]++;
                } else {
                    runs.add(new int[] {1, place});
                }
            }
        }

        List<Integer> attributes() {
            List<Integer> all = new ArrayList<>();
            if (!name.isEmpty()) {
                all.add(1);
                all.add(2 + name.length());
                name.chars().forEach(all::add);
            }
            if (state == 0) {
                return all;
            }
            List<Integer> held = new ArrayList<>(data);
            if (kind == 3) {
                held = new ArrayList<>(List.of(size % 256, size / 256));
                int before = 48;
                for (int[] run : runs) {
                    if (run[1] == NONE) {
                        held.addAll(List.of(1, run[0]));
                    } else {
                        held.addAll(List.of(17, run[0], Math.floorMod(run[1] - before, 256)));
                        before = run[1];
                    }
                }
                held.add(0);
            }
            all.add(kind);
            all.add(2 + held.size());
            all.addAll(held);
            return all;
        }
    }

    private final int[] bytes = new int[2048];
    private boolean on = true;
    private int told = 0;
    private String draft = "";

    Model() {
        put(0, root());
    }

    boolean type(char c) {
        if ("abcdefghijklmnopqrstuvwxyz0123456789".indexOf(c) < 0 || draft.length() == 8) {
            return false;
        }
        draft += c;
        return true;
    }

    int create(int directory, boolean isFile) {
        String name = draft;
        draft = "";
        mustBeOn();
        must(isState(directory, 2) && !name.isEmpty() && named(directory, name) == NONE);
        int r = 0;
        while (r < 12 && isUsed(r)) {
            r++;
        }
        if (r == 12) {
            throw new UnsupportedOperationException();
        }
        Parts parts = new Parts();
        parts.state = isFile ? 1 : 2;
        parts.kind = isFile ? 2 : 4;
        parts.parent = directory;
        parts.name = name;
        put(r, parts);
        list(directory, r, NONE);
        return r;
    }

    int write(int file, int at, int n, int b) {
        mustBeOn();
        must(isState(file, 1) && at >= 0 && at <= 1000 && n >= 1 && n <= 60 && at + n <= 1000);
        Parts parts = get(file);
        int oldSize = parts.size;
        List<Integer> all = contents(parts);
        while (all.size() < at + n) {
            all.add(0);
        }
        for (int k = 0; k < n; k++) {
            all.set(at + k, Math.floorMod(b + k, 256));
        }
        parts.size = all.size();
        if (parts.kind == 2 && 2 + parts.name.length() + 2 + all.size() <= 54) {
            parts.data = all;
        } else {
            putOutside(parts, all, oldSize, at, n);
        }
        put(file, parts);
        return all.size();
    }

    private void putOutside(Parts parts, List<Integer> all, int oldSize, int at, int n) {
        TreeMap<Integer, Integer> map = parts.map();
        TreeSet<Integer> left = untaken();
        for (int i = 0; i < (all.size() + 15) / 16; i++) {
            boolean lay = parts.kind == 2 && 16 * i < oldSize;
            boolean written = 16 * i < at + n && 16 * (i + 1) > at;
            if (!map.containsKey(i) && (lay || written)) {
                if (left.isEmpty()) {
                    throw new UnsupportedOperationException();
                }
                map.put(i, left.pollFirst());
            }
        }
        parts.kind = 3;
        parts.setRuns(map);
        if (parts.attributes().size() > 54) {
            throw new UnsupportedOperationException();
        }
        layClusters(map, all);
    }

    /** All that a file has, and 0 behind its end in its last cluster. */
    private void layClusters(TreeMap<Integer, Integer> map, List<Integer> all) {
        map.forEach((i, place) -> {
            for (int k = 0; k < 16; k++) {
                bytes[16 * place + k] = 16 * i + k < all.size() ? all.get(16 * i + k) : 0;
            }
        });
    }

    int cut(int file, int size) {
        mustBeOn();
        must(isState(file, 1));
        Parts parts = get(file);
        int before = parts.size;
        must(size >= 0 && size <= before);
        List<Integer> all = new ArrayList<>(contents(parts).subList(0, size));
        parts.size = size;
        if (parts.kind == 2 || size == 0) {
            parts.kind = 2;
            parts.data = all;
            parts.runs.clear();
        } else {
            TreeMap<Integer, Integer> map = parts.map();
            map.tailMap((size + 15) / 16, true).clear();
            layClusters(map, all);
            parts.setRuns(map);
        }
        put(file, parts);
        return before;
    }

    int remove(int record) {
        mustBeOn();
        must(isUsed(record) && record != 0 && !(isState(record, 2) && get(record).size > 0));
        int clusters = get(record).map().size();
        list(get(record).parent, NONE, record);
        put(record, new Parts());
        return clusters;
    }

    void move(int record, int directory) {
        mustBeOn();
        must(isUsed(record) && record != 0 && isState(directory, 2));
        for (int up = directory; up != 0; up = get(up).parent) {
            must(up != record);
        }
        Parts parts = get(record);
        must(named(directory, parts.name) == NONE);
        int before = parts.parent;
        parts.parent = directory;
        put(record, parts);
        list(before, NONE, record);
        list(directory, record, NONE);
    }

    boolean fail(int n) {
        if (n < 0 || n > 20) {
            return false;
        }
        told = n;
        return true;
    }

    int mount() {
        int count = 0;
        if (!isUsed(0)) {
            put(0, root());
            count++;
        }
        for (int r = 0; r < 12; r++) {
            if (isUsed(r) && !comesFromRoot(r)) {
                Parts parts = get(r);
                parts.parent = 0;
                put(r, parts);
                count++;
            }
        }
        for (int d = 0; d < 12; d++) {
            if (isState(d, 2)) {
                Parts parts = get(d);
                List<Integer> due = sorted(children(d));
                if (!due.equals(parts.data)) {
                    parts.data = due;
                    put(d, parts);
                    count++;
                }
            }
        }
        on = true;
        return count;
    }

    boolean on() {
        return on;
    }

    int find(int directory) {
        int found = on && isState(directory, 2) ? named(directory, draft) : NONE;
        draft = "";
        return found;
    }

    int record(int r, int what) {
        if (!on || !isUsed(r) || what < 0 || what > 6) {
            return NONE;
        }
        Parts parts = get(r);
        int number = word(64 * r + 2);
        int[] all = {parts.state, parts.parent, number, bytes[64 * r + 8], parts.size, parts.kind, parts.runs.size()};
        return all[what];
    }

    int read(int r, int k) {
        if (!on || !isUsed(r)) {
            return NONE;
        }
        List<Integer> all = contents(get(r));
        return k >= 0 && k < all.size() ? all.get(k) : NONE;
    }

    int run(int file, int k, int what) {
        if (!on || !isState(file, 1)) {
            return NONE;
        }
        List<int[]> runs = get(file).runs;
        return k >= 0 && k < runs.size() && (what == 0 || what == 1) ? runs.get(k)[what] : NONE;
    }

    int free() {
        return on ? untaken().size() : 0;
    }

    int at(int k) {
        return k >= 0 && k < 2048 ? bytes[k] : NONE;
    }

    private void mustBeOn() {
        if (!on) {
            throw new IllegalStateException();
        }
    }

    private static void must(boolean holds) {
        if (!holds) {
            throw new IllegalArgumentException();
        }
    }

    private static Parts root() {
        Parts parts = new Parts();
        parts.state = 2;
        parts.kind = 4;
        return parts;
    }

    private int word(int k) {
        return bytes[k] + 256 * bytes[k + 1];
    }

    private boolean isUsed(int r) {
        return isState(r, 1) || isState(r, 2);
    }

    private boolean isState(int r, int state) {
        if (r < 0 || r > 11) {
            return false;
        }
        int from = 64 * r;
        int number = word(from + 2);
        return bytes[from] == state && word(from + 30) == number && word(from + 62) == number;
    }

    private Parts get(int r) {
        int[] own = Arrays.copyOfRange(bytes, 64 * r, 64 * r + 64);
        System.arraycopy(own, 4, own, 30, 2);
        System.arraycopy(own, 6, own, 62, 2);
        Parts parts = new Parts();
        parts.state = own[0];
        parts.parent = own[1];
        int p = 10;
        while (p < 10 + own[8]) {
            int[] held = Arrays.copyOfRange(own, p + 2, p + own[p + 1]);
            if (own[p] == 1) {
                parts.name = new String(held, 0, held.length);
            } else {
                parts.kind = own[p];
                setData(parts, held);
            }
            p += own[p + 1];
        }
        return parts;
    }

    private static void setData(Parts parts, int[] held) {
        if (parts.kind != 3) {
            parts.size = held.length;
            Arrays.stream(held).forEach(parts.data::add);
            return;
        }
        parts.size = held[0] + 256 * held[1];
        int before = 48;
        for (int p = 2; held[p] != 0; p += held[p] == 17 ? 3 : 2) {
            if (held[p] == 17) {
                before = (before + held[p + 2]) % 256;
                parts.runs.add(new int[] {held[p + 1], before});
            } else {
                parts.runs.add(new int[] {held[p + 1], NONE});
            }
        }
    }

    private List<Integer> contents(Parts parts) {
        if (parts.kind != 3) {
            return new ArrayList<>(parts.data);
        }
        TreeMap<Integer, Integer> map = parts.map();
        List<Integer> all = new ArrayList<>();
        for (int k = 0; k < parts.size; k++) {
            Integer place = map.get(k / 16);
            all.add(place == null ? 0 : bytes[16 * place + k % 16]);
        }
        return all;
    }

    private TreeSet<Integer> untaken() {
        TreeSet<Integer> left = new TreeSet<>();
        for (int c = 48; c < 128; c++) {
            left.add(c);
        }
        for (int r = 0; r < 12; r++) {
            if (isUsed(r)) {
                left.removeAll(get(r).map().values());
            }
        }
        return left;
    }

    private int named(int directory, String name) {
        for (int r : get(directory).data) {
            if (get(r).name.equals(name)) {
                return r;
            }
        }
        return NONE;
    }

    private boolean comesFromRoot(int r) {
        TreeSet<Integer> seen = new TreeSet<>();
        int up = get(r).parent;
        while (up != 0 && isState(up, 2) && seen.add(up)) {
            up = get(up).parent;
        }
        return up == 0;
    }

    private List<Integer> children(int d) {
        List<Integer> all = new ArrayList<>();
        for (int r = 1; r < 12; r++) {
            if (isUsed(r) && get(r).parent == d) {
                all.add(r);
            }
        }
        return all;
    }

    private List<Integer> sorted(List<Integer> records) {
        List<Integer> all = new ArrayList<>(records);
        all.sort((x, y) -> {
            int names = get(x).name.compareTo(get(y).name);
            return names != 0 ? names : Integer.compare(x, y);
        });
        return all;
    }

    private void list(int directory, int comes, int goes) {
        Parts parts = get(directory);
        parts.data.remove((Integer) goes);
        if (comes != NONE) {
            parts.data.add(comes);
        }
        parts.data = sorted(parts.data);
        put(directory, parts);
    }

    private void put(int r, Parts parts) {
        int[] own = new int[64];
        int number = word(64 * r + 2) == 65535 ? 1 : word(64 * r + 2) + 1;
        List<Integer> attributes = parts.attributes();
        own[0] = parts.state;
        own[1] = parts.parent;
        own[8] = attributes.size();
        for (int k = 0; k < attributes.size(); k++) {
            own[10 + k] = attributes.get(k);
        }
        System.arraycopy(own, 30, own, 4, 2);
        System.arraycopy(own, 62, own, 6, 2);
        for (int k : new int[] {2, 30, 62}) {
            own[k] = number % 256;
            own[k + 1] = number / 256;
        }
        for (int half = 0; half < 2; half++) {
            if (told == 1) {
                told = 0;
                on = false;
                throw new IllegalStateException();
            }
            told = Math.max(0, told - 1);
            System.arraycopy(own, 32 * half, bytes, 64 * r + 32 * half, 32);
        }
    }
}
