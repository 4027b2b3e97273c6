import java.util.Arrays;

/**
 * A small volume of records with attributes, whose sectors bear a number by which a torn write is
 * found. The promises are in the project's document; while the volume is on, the sheets say what the
 * records on the disk say, and mounting makes them anew from the disk alone.
 */
public final class FixupVolume {
    /** Nothing there. */
    public static final int NONE = -1;

    private static final int RECORDS = 12;
    private static final int RECORD_BYTES = 64;
    private static final int SECTOR_BYTES = 32;
    private static final int ROOT = 0;

    private static final int CLUSTERS = 128;
    private static final int CLUSTER_BYTES = 16;
    private static final int FIRST_DATA = 48;
    private static final int HOLE = -1;

    private static final int FREE = 0;
    private static final int FILE = 1;
    private static final int DIRECTORY = 2;

    private static final int NO_KIND = 0;
    private static final int NAME = 1;
    private static final int INSIDE = 2;
    private static final int OUTSIDE = 3;
    private static final int LIST = 4;

    private static final int FIRST_ATTRIBUTE = 10;
    private static final int MOST_ATTRIBUTE_BYTES = RECORD_BYTES - FIRST_ATTRIBUTE;
    private static final int HEAD_BYTES = 2;
    private static final int SIZE_BYTES = 2;
    private static final int END_BYTES = 1;
    private static final int RUN_MARK = 17;
    private static final int RUN_BYTES = 3;
    private static final int HOLE_MARK = 1;
    private static final int HOLE_BYTES = 2;

    private static final int LAST_NUMBER = 65535;
    private static final int LONGEST_NAME = 8;
    private static final int LARGEST_FILE = 1000;
    private static final int MOST_FILE_CLUSTERS = (LARGEST_FILE + CLUSTER_BYTES - 1) / CLUSTER_BYTES;
    private static final int MOST_WRITTEN = 60;
    private static final int LATEST_CUT = 20;

    private final Disk disk;
    private final Sheet[] sheets;
    private final boolean[] taken;
    private final Name draft;
    private boolean running;

    // Used again by every call, so that no call makes rows of its own.
    private final Name givenName;
    private final Layout plan;
    private final int[] image;
    private final int[] entries;

    public FixupVolume() {
        disk = new Disk();
        sheets = new Sheet[RECORDS];
        for (int r = 0; r < RECORDS; r++) {
            sheets[r] = new Sheet();
        }
        taken = new boolean[CLUSTERS];
        draft = new Name();
        givenName = new Name();
        plan = new Layout();
        image = new int[RECORD_BYTES];
        entries = new int[RECORDS];
        sheets[ROOT].become(DIRECTORY, ROOT);
        sheets[ROOT].takeNextNumber();
        sheets[ROOT].encode(image);
        disk.laySector(ROOT, 0, image);
        disk.laySector(ROOT, 1, image);
        running = true;
    }

    public boolean type(char c) {
        return draft.append(c);
    }

    public int create(int directory, boolean isFile)
            throws IllegalStateException, IllegalArgumentException, UnsupportedOperationException {
        givenName.copyFrom(draft);
        draft.clear();
        requireRunning();
        require(isDirectory(directory) && givenName.length > 0 && entryNamed(directory, givenName) == NONE);
        int r = lowestFreeRecord();
        if (r == NONE) {
            throw new UnsupportedOperationException("no record is free");
        }
        sheets[r].become(isFile ? FILE : DIRECTORY, directory);
        sheets[r].name.copyFrom(givenName);
        store(r);
        enter(directory, r);
        store(directory);
        return r;
    }

    public int write(int file, int at, int n, int b)
            throws IllegalStateException, IllegalArgumentException, UnsupportedOperationException {
        requireRunning();
        require(isFile(file) && at >= 0 && at <= LARGEST_FILE && n >= 1 && n <= MOST_WRITTEN
                && at + n <= LARGEST_FILE);
        Sheet sheet = sheets[file];
        int size = Math.max(sheet.size, at + n);
        if (sheet.kind == INSIDE && size <= sheet.mostInside()) {
            sheet.putInside(at, n, b, size);
        } else {
            if (!makePlan(sheet, at, n, size)) {
                throw new UnsupportedOperationException("too few clusters, or too many runs");
            }
            putOutside(sheet, at, n, b, size);
        }
        store(file);
        return size;
    }

    public int cut(int file, int size) throws IllegalStateException, IllegalArgumentException {
        requireRunning();
        require(isFile(file) && size >= 0 && size <= sheets[file].size);
        Sheet sheet = sheets[file];
        int before = sheet.size;
        sheet.size = size;
        if (sheet.kind == OUTSIDE) {
            releaseFrom(sheet.layout, clustersFor(size));
            disk.clearFile(sheet.layout, size, endOfLastCluster(size));
            if (size == 0) {
                sheet.kind = INSIDE;
            }
        }
        store(file);
        return before;
    }

    public int remove(int record) throws IllegalStateException, IllegalArgumentException {
        requireRunning();
        require(isUsed(record) && record != ROOT && !(isDirectory(record) && sheets[record].size > 0));
        Sheet sheet = sheets[record];
        int parent = sheet.parent;
        leave(parent, record);
        store(parent);
        int released = releaseFrom(sheet.layout, 0);
        sheet.become(FREE, ROOT);
        store(record);
        return released;
    }

    public void move(int record, int directory) throws IllegalStateException, IllegalArgumentException {
        requireRunning();
        require(isUsed(record) && record != ROOT && isDirectory(directory) && !isAtOrBelow(directory, record)
                && entryNamed(directory, sheets[record].name) == NONE);
        int before = sheets[record].parent;
        sheets[record].parent = directory;
        store(record);
        leave(before, record);
        store(before);
        enter(directory, record);
        store(directory);
    }

    public boolean fail(int n) {
        if (n < 0 || n > LATEST_CUT) {
            return false;
        }
        disk.sectorsToCut = n;
        return true;
    }

    public int mount() throws IllegalStateException {
        for (int r = 0; r < RECORDS; r++) {
            disk.liftRecord(r, image);
            sheets[r].decode(image);
        }
        int written = restoreRoot();
        written += adoptStrays();
        written += mendLists();
        noteTaken();
        running = true;
        return written;
    }

    public boolean on() {
        return running;
    }

    public int find(int directory) {
        int found = running && isDirectory(directory) ? entryNamed(directory, draft) : NONE;
        draft.clear();
        return found;
    }

    public int record(int r, int what) {
        if (!running || !isUsed(r)) {
            return NONE;
        }
        Sheet sheet = sheets[r];
        switch (what) {
            case 0:
                return sheet.state;
            case 1:
                return sheet.parent;
            case 2:
                return sheet.number;
            case 3:
                return sheet.attributeBytes();
            case 4:
                return sheet.size;
            case 5:
                return sheet.kind;
            case 6:
                return sheet.layout.runCount();
            default:
                return NONE;
        }
    }

    public int read(int r, int k) {
        if (!running || !isUsed(r) || k < 0 || k >= sheets[r].size) {
            return NONE;
        }
        Sheet sheet = sheets[r];
        return sheet.kind == OUTSIDE ? disk.fileByte(sheet.layout, k) : sheet.held[k];
    }

    public int run(int file, int k, int what) {
        if (!running || !isFile(file)) {
            return NONE;
        }
        Layout layout = sheets[file].layout;
        int start = layout.startOfRun(k);
        if (start == NONE) {
            return NONE;
        }
        switch (what) {
            case 0:
                return layout.lengthOfRun(start);
            case 1:
                return layout.placeOf(start) == HOLE ? NONE : layout.placeOf(start);
            default:
                return NONE;
        }
    }

    public int free() {
        if (!running) {
            return 0;
        }
        int count = 0;
        for (int c = FIRST_DATA; c < CLUSTERS; c++) {
            if (!taken[c]) {
                count++;
            }
        }
        return count;
    }

    public int at(int k) {
        return k >= 0 && k < disk.cells.length ? disk.cells[k] : NONE;
    }

    private void requireRunning() {
        if (!running) {
            throw new IllegalStateException("the volume is off");
        }
    }

    private static void require(boolean asPromised) {
        if (!asPromised) {
            throw new IllegalArgumentException("not what the call can be about");
        }
    }

    private boolean isUsed(int r) {
        return r >= 0 && r < RECORDS && sheets[r].state != FREE;
    }

    private boolean isFile(int r) {
        return isUsed(r) && sheets[r].state == FILE;
    }

    private boolean isDirectory(int r) {
        return isUsed(r) && sheets[r].state == DIRECTORY;
    }

    private int lowestFreeRecord() {
        for (int r = 0; r < RECORDS; r++) {
            if (!isUsed(r)) {
                return r;
            }
        }
        return NONE;
    }

    private int lowestFreeCluster(int from) {
        for (int c = from; c < CLUSTERS; c++) {
            if (!taken[c]) {
                return c;
            }
        }
        return NONE;
    }

    /** The steps are counted, so that a ring of parents ends too. */
    private boolean isAtOrBelow(int r, int top) {
        int up = r;
        for (int step = 0; step < RECORDS && isUsed(up); step++) {
            if (up == top) {
                return true;
            }
            up = sheets[up].parent;
        }
        return false;
    }

    /** Whether all above record r are directories in use, and the root is one of them. */
    private boolean leadsToRoot(int r) {
        int up = sheets[r].parent;
        for (int step = 0; step < RECORDS && isDirectory(up); step++) {
            if (up == ROOT) {
                return true;
            }
            up = sheets[up].parent;
        }
        return false;
    }

    private int entryNamed(int directory, Name name) {
        Sheet sheet = sheets[directory];
        for (int k = 0; k < sheet.size; k++) {
            if (sheets[sheet.held[k]].name.compare(name) == 0) {
                return sheet.held[k];
            }
        }
        return NONE;
    }

    private void enter(int directory, int r) {
        Sheet sheet = sheets[directory];
        sheet.size = insertByName(sheet.held, sheet.size, r);
    }

    /** Behind entries of the same name, so that those which come by rising numbers stay so. */
    private int insertByName(int[] list, int length, int r) {
        if (length >= RECORDS) {
            return length;
        }
        int k = length;
        while (k > 0 && sheets[list[k - 1]].name.compare(sheets[r].name) > 0) {
            list[k] = list[k - 1];
            k--;
        }
        list[k] = r;
        return length + 1;
    }

    private void leave(int directory, int r) {
        Sheet sheet = sheets[directory];
        int kept = 0;
        for (int k = 0; k < sheet.size; k++) {
            if (sheet.held[k] != r) {
                sheet.held[kept] = sheet.held[k];
                kept++;
            }
        }
        sheet.size = kept;
    }

    private void store(int r) {
        sheets[r].takeNextNumber();
        sheets[r].encode(image);
        storeSector(r, 0);
        storeSector(r, 1);
    }

    private void storeSector(int r, int half) {
        if (disk.isCutNow()) {
            running = false;
            throw new IllegalStateException("the volume goes off");
        }
        disk.laySector(r, half, image);
    }

    /** Makes the plan of a file that is to be outside; false if it can't be, and nothing is changed then. */
    private boolean makePlan(Sheet sheet, int at, int n, int size) {
        int next = FIRST_DATA;
        plan.count = 0;
        for (int i = 0; i < clustersFor(size); i++) {
            int place = sheet.layout.placeOf(i);
            if (place == HOLE && needsCluster(sheet, i, at, n)) {
                place = lowestFreeCluster(next);
                if (place == NONE) {
                    return false;
                }
                next = place + 1;
            }
            plan.append(place, 1);
        }
        return sheet.nameBytes() + plan.attributeBytes() <= MOST_ATTRIBUTE_BYTES;
    }

    private static boolean needsCluster(Sheet sheet, int i, int at, int n) {
        boolean isWritten = i >= at / CLUSTER_BYTES && i <= (at + n - 1) / CLUSTER_BYTES;
        return isWritten || (sheet.kind == INSIDE && i < clustersFor(sheet.size));
    }

    private void putOutside(Sheet sheet, int at, int n, int b, int size) {
        takePlanned();
        if (sheet.kind == INSIDE) {
            for (int k = 0; k < sheet.size; k++) {
                disk.putFileByte(plan, k, sheet.held[k]);
            }
        }
        // A call that went off may have left bytes behind the end.
        disk.clearFile(plan, sheet.size, at);
        for (int k = 0; k < n; k++) {
            disk.putFileByte(plan, at + k, (b + k) & 255);
        }
        disk.clearFile(plan, size, endOfLastCluster(size));
        sheet.kind = OUTSIDE;
        sheet.size = size;
        sheet.layout.copyFrom(plan);
    }

    /** What lay in a cluster before it was given must not be seen in the file. */
    private void takePlanned() {
        for (int i = 0; i < plan.count; i++) {
            int place = plan.places[i];
            if (isDataCluster(place) && !taken[place]) {
                taken[place] = true;
                disk.clearFile(plan, i * CLUSTER_BYTES, (i + 1) * CLUSTER_BYTES);
            }
        }
    }

    /** Sets free what a file has from its cluster first on: how many clusters of the volume that is. */
    private int releaseFrom(Layout layout, int first) {
        int released = 0;
        for (int i = first; i < layout.count; i++) {
            if (isDataCluster(layout.places[i])) {
                taken[layout.places[i]] = false;
                released++;
            }
        }
        layout.count = Math.min(layout.count, first);
        return released;
    }

    private int restoreRoot() {
        if (isUsed(ROOT)) {
            return 0;
        }
        sheets[ROOT].become(DIRECTORY, ROOT);
        store(ROOT);
        return 1;
    }

    private int adoptStrays() {
        int written = 0;
        for (int r = 0; r < RECORDS; r++) {
            if (isUsed(r) && !leadsToRoot(r)) {
                sheets[r].parent = ROOT;
                store(r);
                written++;
            }
        }
        return written;
    }

    private int mendLists() {
        int written = 0;
        for (int d = 0; d < RECORDS; d++) {
            if (isDirectory(d)) {
                int length = collectEntries(d);
                if (!sheets[d].hasList(entries, length)) {
                    sheets[d].setList(entries, length);
                    store(d);
                    written++;
                }
            }
        }
        return written;
    }

    /** Puts into entries what has d for its parent: how many. */
    private int collectEntries(int d) {
        int length = 0;
        for (int r = ROOT + 1; r < RECORDS; r++) {
            if (isUsed(r) && sheets[r].parent == d) {
                length = insertByName(entries, length, r);
            }
        }
        return length;
    }

    private void noteTaken() {
        for (int c = 0; c < CLUSTERS; c++) {
            taken[c] = false;
        }
        for (int r = 0; r < RECORDS; r++) {
            Layout layout = sheets[r].layout;
            for (int i = 0; i < layout.count; i++) {
                if (isDataCluster(layout.places[i])) {
                    taken[layout.places[i]] = true;
                }
            }
        }
    }

    private static boolean isDataCluster(int c) {
        return c >= FIRST_DATA && c < CLUSTERS;
    }

    private static int clustersFor(int size) {
        return (size + CLUSTER_BYTES - 1) / CLUSTER_BYTES;
    }

    private static int endOfLastCluster(int size) {
        return clustersFor(size) * CLUSTER_BYTES;
    }

    private static int wordAt(int[] bytes, int from) {
        return bytes[from] + 256 * bytes[from + 1];
    }

    private static void putWord(int[] bytes, int from, int word) {
        bytes[from] = word & 255;
        bytes[from + 1] = (word >> 8) & 255;
    }

    /** The bytes as they lie there, and the cut that was told. */
    private static final class Disk {
        final int[] cells = new int[CLUSTERS * CLUSTER_BYTES];
        int sectorsToCut;

        /** To be asked once for each sector that is to be written. */
        boolean isCutNow() {
            if (sectorsToCut == 0) {
                return false;
            }
            sectorsToCut--;
            return sectorsToCut == 0;
        }

        void laySector(int r, int half, int[] image) {
            int from = half * SECTOR_BYTES;
            System.arraycopy(image, from, cells, r * RECORD_BYTES + from, SECTOR_BYTES);
        }

        void liftRecord(int r, int[] image) {
            System.arraycopy(cells, r * RECORD_BYTES, image, 0, RECORD_BYTES);
        }

        int fileByte(Layout layout, int k) {
            int place = layout.placeOf(k / CLUSTER_BYTES);
            return isDataCluster(place) ? cells[place * CLUSTER_BYTES + k % CLUSTER_BYTES] : 0;
        }

        /** In a hole there is no place for it. */
        void putFileByte(Layout layout, int k, int value) {
            int place = layout.placeOf(k / CLUSTER_BYTES);
            if (isDataCluster(place)) {
                cells[place * CLUSTER_BYTES + k % CLUSTER_BYTES] = value;
            }
        }

        void clearFile(Layout layout, int from, int to) {
            for (int k = from; k < to; k++) {
                putFileByte(layout, k, 0);
            }
        }
    }

    /** A name, or the draft of one. */
    private static final class Name {
        final int[] letters = new int[LONGEST_NAME];
        int length;

        boolean append(int c) {
            boolean isLetter = (c >= 'a' && c <= 'z') || (c >= '0' && c <= '9');
            if (!isLetter || length >= LONGEST_NAME) {
                return false;
            }
            letters[length] = c;
            length++;
            return true;
        }

        void clear() {
            length = 0;
        }

        void copyFrom(Name other) {
            System.arraycopy(other.letters, 0, letters, 0, LONGEST_NAME);
            length = other.length;
        }

        /** Below 0 if this one stands before the other one, 0 if they are the same. */
        int compare(Name other) {
            int shared = Math.min(length, other.length);
            for (int k = 0; k < shared; k++) {
                if (letters[k] != other.letters[k]) {
                    return letters[k] - other.letters[k];
                }
            }
            return length - other.length;
        }
    }

    /**
     * For each cluster of a file its place in the volume, or HOLE. Runs are as long as they can be, so
     * the places alone say where each run begins.
     */
    private static final class Layout {
        final int[] places = new int[MOST_FILE_CLUSTERS];
        int count;

        int placeOf(int i) {
            return i >= 0 && i < count ? places[i] : HOLE;
        }

        void append(int first, int length) {
            for (int k = 0; k < length && count < places.length; k++) {
                places[count] = first == HOLE ? HOLE : first + k;
                count++;
            }
        }

        void copyFrom(Layout other) {
            System.arraycopy(other.places, 0, places, 0, other.count);
            count = other.count;
        }

        boolean startsRun(int i) {
            if (i == 0) {
                return true;
            }
            if (places[i] == HOLE || places[i - 1] == HOLE) {
                return places[i] != places[i - 1];
            }
            return places[i] != places[i - 1] + 1;
        }

        int runCount() {
            int runs = 0;
            for (int i = 0; i < count; i++) {
                if (startsRun(i)) {
                    runs++;
                }
            }
            return runs;
        }

        /** The file's cluster with which run k begins, or NONE. */
        int startOfRun(int k) {
            int runs = 0;
            for (int i = 0; i < count; i++) {
                if (startsRun(i)) {
                    if (runs == k) {
                        return i;
                    }
                    runs++;
                }
            }
            return NONE;
        }

        int lengthOfRun(int start) {
            int end = start + 1;
            while (end < count && !startsRun(end)) {
                end++;
            }
            return end - start;
        }

        /** How many bytes the attribute of a file has that lies so. */
        int attributeBytes() {
            int bytes = HEAD_BYTES + SIZE_BYTES + END_BYTES;
            for (int i = 0; i < count; i++) {
                if (startsRun(i)) {
                    bytes += places[i] == HOLE ? HOLE_BYTES : RUN_BYTES;
                }
            }
            return bytes;
        }

        /** Puts the runs into an image that is 0 there: the place behind them. */
        int encode(int[] image, int from) {
            int end = from;
            int lengthAt = from;
            int before = FIRST_DATA;
            for (int i = 0; i < count; i++) {
                if (startsRun(i)) {
                    lengthAt = end + 1;
                    if (places[i] == HOLE) {
                        image[end] = HOLE_MARK;
                        end += HOLE_BYTES;
                    } else {
                        image[end] = RUN_MARK;
                        image[end + 2] = (places[i] - before) & 255;
                        before = places[i];
                        end += RUN_BYTES;
                    }
                }
                image[lengthAt]++;
            }
            return end;
        }

        void decode(int[] image, int from, int end) {
            int p = from;
            int before = FIRST_DATA;
            count = 0;
            while (p + HOLE_BYTES < end && image[p] != 0) {
                if (image[p] == RUN_MARK) {
                    before = (before + image[p + 2]) & 255;
                    append(before, image[p + 1]);
                    p += RUN_BYTES;
                } else {
                    append(HOLE, image[p + 1]);
                    p += HOLE_BYTES;
                }
            }
        }
    }

    /** What a record says, as reading it gives it; a free one has its number alone. */
    private static final class Sheet {
        int state;
        int parent;
        int number;
        int kind;
        int size;
        final Name name = new Name();
        final int[] held = new int[MOST_ATTRIBUTE_BYTES];
        final Layout layout = new Layout();

        void become(int newState, int newParent) {
            state = newState;
            parent = newParent;
            kind = newState == FILE ? INSIDE : newState == DIRECTORY ? LIST : NO_KIND;
            size = 0;
            name.clear();
            layout.count = 0;
        }

        void takeNextNumber() {
            number = number >= LAST_NUMBER ? 1 : number + 1;
        }

        int nameBytes() {
            return name.length == 0 ? 0 : HEAD_BYTES + name.length;
        }

        int dataBytes() {
            if (kind == NO_KIND) {
                return 0;
            }
            return kind == OUTSIDE ? layout.attributeBytes() : HEAD_BYTES + size;
        }

        int attributeBytes() {
            return nameBytes() + dataBytes();
        }

        int mostInside() {
            return MOST_ATTRIBUTE_BYTES - nameBytes() - HEAD_BYTES;
        }

        void putInside(int at, int n, int b, int newSize) {
            for (int k = size; k < at; k++) {
                held[k] = 0;
            }
            for (int k = 0; k < n; k++) {
                held[at + k] = (b + k) & 255;
            }
            size = newSize;
        }

        boolean hasList(int[] list, int length) {
            if (size != length) {
                return false;
            }
            for (int k = 0; k < length; k++) {
                if (held[k] != list[k]) {
                    return false;
                }
            }
            return true;
        }

        void setList(int[] list, int length) {
            System.arraycopy(list, 0, held, 0, length);
            size = length;
        }

        void encode(int[] image) {
            Arrays.fill(image, 0);
            image[0] = state;
            image[1] = parent;
            putWord(image, 2, number);
            int end = encodeData(image, encodeName(image));
            image[8] = end - FIRST_ATTRIBUTE;
            setAside(image, 4, SECTOR_BYTES - 2);
            setAside(image, 6, RECORD_BYTES - 2);
        }

        /** The place behind the name, as encodeData answers the one behind the data. */
        private int encodeName(int[] image) {
            if (name.length == 0) {
                return FIRST_ATTRIBUTE;
            }
            image[FIRST_ATTRIBUTE] = NAME;
            image[FIRST_ATTRIBUTE + 1] = HEAD_BYTES + name.length;
            System.arraycopy(name.letters, 0, image, FIRST_ATTRIBUTE + HEAD_BYTES, name.length);
            return FIRST_ATTRIBUTE + HEAD_BYTES + name.length;
        }

        private int encodeData(int[] image, int from) {
            if (kind == NO_KIND) {
                return from;
            }
            int end = from + HEAD_BYTES;
            if (kind == OUTSIDE) {
                putWord(image, end, size);
                end = layout.encode(image, end + SIZE_BYTES) + END_BYTES;
            } else {
                System.arraycopy(held, 0, image, end, size);
                end += size;
            }
            image[from] = kind;
            image[from + 1] = end - from;
            return end;
        }

        private void setAside(int[] image, int kept, int last) {
            putWord(image, kept, wordAt(image, last));
            putWord(image, last, number);
        }

        void decode(int[] image) {
            int stored = image[0];
            number = wordAt(image, 2);
            if (isTorn(image) || (stored != FILE && stored != DIRECTORY)) {
                become(FREE, ROOT);
                return;
            }
            putWord(image, SECTOR_BYTES - 2, wordAt(image, 4));
            putWord(image, RECORD_BYTES - 2, wordAt(image, 6));
            become(stored, image[1]);
            decodeAttributes(image);
        }

        private boolean isTorn(int[] image) {
            return wordAt(image, SECTOR_BYTES - 2) != number || wordAt(image, RECORD_BYTES - 2) != number;
        }

        private void decodeAttributes(int[] image) {
            int end = Math.min(FIRST_ATTRIBUTE + image[8], RECORD_BYTES);
            int from = FIRST_ATTRIBUTE;
            while (from + HEAD_BYTES <= end) {
                int next = from + Math.max(image[from + 1], HEAD_BYTES);
                decodeAttribute(image, from, Math.min(next, end));
                from = next;
            }
        }

        private void decodeAttribute(int[] image, int from, int end) {
            int inner = from + HEAD_BYTES;
            if (image[from] == NAME) {
                for (int p = inner; p < end; p++) {
                    name.append(image[p]);
                }
            } else if (image[from] != OUTSIDE) {
                kind = image[from];
                size = end - inner;
                System.arraycopy(image, inner, held, 0, size);
            } else if (inner + SIZE_BYTES <= end) {
                kind = OUTSIDE;
                size = wordAt(image, inner);
                layout.decode(image, inner + SIZE_BYTES, end);
            }
        }
    }
}
