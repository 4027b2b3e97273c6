/** The edges that the section "Terms" names: first and last places, words, numbers, runs, lists. */
public final class TermsTest {
    private static final int DATA = 48 * 16;
    private static final int LAST_NUMBER = 65535;

    public static void main(String[] args) {
        lastRecord();
        allRecordsInOneList();
        firstAndLastCluster();
        zeroBehindAttributes();
        numberCarries();
        numberWrapsAround();
        tornWhereTheNumberWrapsAround();
        tornByTheSecondSectorAlone();
        longestRunAndHole();
        farthestForward();
        farthestBack();
        behindTheRunBeforeTheHole();
        clustersGivenInOrder();
        clustersOfACutAreGivenLater();
        recordsGivenByRisingNumbers();
        Check.end();
    }

    private static void write(FixupVolume v, int file, int size) {
        for (int at = 0; at < size; at += 60) {
            v.write(file, at, Math.min(60, size - at), at);
        }
    }

    /** A file of a hole of three clusters and one cluster of the volume: it has to be outside. */
    private static void oneCluster(FixupVolume v, int file) {
        v.write(file, 48, 16, 10 * file);
    }

    private static FixupVolume withFiles(int n) {
        FixupVolume v = new FixupVolume();
        for (int r = 1; r <= n; r++) {
            Check.file(v, 0, "" + (char) ('a' + r - 1));
        }
        return v;
    }

    private static void lastRecord() {
        FixupVolume v = withFiles(11);
        v.write(11, 0, 49, 100);
        Check.bytes("record 11", v, 704, 1, 0, 2, 0, 115, 116, 147, 148, 54, 0, 1, 3, 'k', 2, 51, 100);
        Check.bytes("its end", v, 765, 146, 2, 0);
        Check.same("data lies behind it", v.at(DATA), 0);
        Check.same("mount()", v.mount(), 0);
        Check.same("its last byte", v.read(11, 48), 148);
        Check.same("there is no record 12", v.record(12, 0), FixupVolume.NONE);
    }

    private static void allRecordsInOneList() {
        FixupVolume v = withFiles(11);
        Check.list("the root", v, 0, 1, 2, 3, 4, 5, 6, 7, 8, 9, 10, 11);
        Check.same("its attributes", v.record(0, 3), 13);
        Check.bytes("as it lies there", v, 8, 13, 0, 4, 13, 1, 2, 3, 4, 5, 6, 7, 8, 9, 10, 11, 0);
        Check.same("mount()", v.mount(), 0);
        Check.same("its last entry", v.read(0, 10), 11);
    }

    private static void firstAndLastCluster() {
        FixupVolume v = withFiles(2);
        write(v, 1, 1000);
        write(v, 2, 272);
        Check.same("all are taken", v.free(), 0);
        Check.same("the first one", v.run(1, 0, 1), 48);
        Check.same("its first byte", v.at(DATA), 0);
        Check.same("its second byte", v.at(DATA + 1), 1);
        Check.same("the last run", v.run(2, 0, 1) + v.run(2, 0, 0), 128);
        Check.same("its last byte", v.at(2047), (240 + 31) & 255);
        Check.same("mount()", v.mount(), 0);
        Check.same("all are taken still", v.free(), 0);
        Check.same("the last byte", v.read(2, 271), (240 + 31) & 255);
    }

    private static void zeroBehindAttributes() {
        FixupVolume v = withFiles(3);
        v.remove(2);
        Check.bytes("a list that became shorter", v, 8, 4, 0, 4, 4, 1, 3, 0, 0, 0);
        v.write(1, 0, 49, 100);
        v.cut(1, 1);
        Check.bytes("a file that became shorter", v, 64 + 4, 0, 0, 0, 0, 6, 0, 1, 3, 'a', 2, 3, 100, 0, 0);
        for (int k = 16; k < 64; k++) {
            boolean isNumber = k == 30 || k == 62;
            Check.same("its byte " + k, v.at(64 + k), isNumber ? 3 : 0);
        }
        v.write(1, 0, 49, 100);
        v.write(1, 0, 50, 100);
        Check.bytes("one that went outside", v, 64 + 8, 11, 0, 1, 3, 'a', 3, 8, 50, 0, 17, 4, 0, 0, 0, 0);
        Check.bytes("its kept words", v, 64 + 4, 0, 0, 0, 0);
        Check.bytes("before its end", v, 64 + 58, 0, 0, 0, 0, 5, 0);
    }

    private static void numberCarries() {
        FixupVolume v = withFiles(1);
        for (int k = 2; k <= 255; k++) {
            v.write(1, 0, 1, k);
        }
        Check.bytes("255", v, 64 + 2, 255, 0);
        v.write(1, 0, 1, 0);
        Check.bytes("256", v, 64 + 2, 0, 1);
        Check.bytes("sector 0's end", v, 64 + 30, 0, 1);
        Check.bytes("sector 1's end", v, 64 + 62, 0, 1);
        Check.same("mount()", v.mount(), 0);
        Check.same("its number", v.record(1, 2), 256);
    }

    /** More calls than an object is promised for; fewer lead to no such number, and the program counts none. */
    private static FixupVolume withLastNumber() {
        FixupVolume v = withFiles(1);
        for (int k = 2; k <= LAST_NUMBER; k++) {
            v.write(1, 0, 1, k);
        }
        return v;
    }

    private static void numberWrapsAround() {
        FixupVolume v = withLastNumber();
        Check.same("the last number", v.record(1, 2), LAST_NUMBER);
        Check.bytes("as it lies there", v, 64 + 2, 255, 255);
        Check.same("write", v.write(1, 0, 1, 7), 1);
        Check.same("the number behind it", v.record(1, 2), 1);
        Check.bytes("as it lies there", v, 64 + 2, 1, 0);
        Check.bytes("sector 0's end", v, 64 + 30, 1, 0);
        Check.bytes("sector 1's end", v, 64 + 62, 1, 0);
        Check.same("mount()", v.mount(), 0);
        Check.same("the file is there", v.read(1, 0), 7);
        v.write(1, 0, 1, 8);
        Check.same("on it goes", v.record(1, 2), 2);
    }

    private static void tornWhereTheNumberWrapsAround() {
        FixupVolume v = withLastNumber();
        Check.cutOff(v, 2, () -> v.write(1, 0, 1, 7));
        Check.bytes("sector 0's number", v, 64 + 30, 1, 0);
        Check.bytes("sector 1's number", v, 64 + 62, 255, 255);
        Check.same("mount()", v.mount(), 1);
        Check.same("it counts as free", v.record(1, 0), FixupVolume.NONE);
        Check.same("it is given", Check.file(v, 0, "b"), 1);
        Check.same("with its next number", v.record(1, 2), 2);
        FixupVolume w = withLastNumber();
        Check.cutOff(w, 1, () -> w.write(1, 0, 1, 7));
        Check.same("mount() finds none torn", w.mount(), 0);
        Check.same("the last number is one", w.record(1, 2), LAST_NUMBER);
    }

    private static void tornByTheSecondSectorAlone() {
        FixupVolume v = withFiles(1);
        Check.cutOff(v, 2, () -> v.write(1, 0, 1, 7));
        Check.bytes("sector 0's end is its number", v, 64 + 30, 2, 0);
        Check.bytes("sector 1's isn't", v, 64 + 62, 1, 0);
        v.mount();
        Check.same("it counts as free", v.record(1, 0), FixupVolume.NONE);
        FixupVolume w = withFiles(1);
        Check.cutOff(w, 1, () -> w.write(1, 0, 1, 7));
        Check.bytes("neither was written", w, 64 + 30, 1, 0);
        Check.same("mount()", w.mount(), 0);
        Check.same("it is in use", w.record(1, 0), 1);
        Check.same("with no byte", w.record(1, 4), 0);
    }

    private static void longestRunAndHole() {
        FixupVolume v = withFiles(2);
        write(v, 1, 1000);
        Check.same("one run", v.record(1, 6), 1);
        Check.same("of all clusters that a file can have", v.run(1, 0, 0), 63);
        Check.bytes("as it lies there", v, 64 + 13, 3, 8, 232, 3, 17, 63, 0, 0, 0);
        v.write(2, 999, 1, 5);
        Check.same("a hole of all but the last one", v.run(2, 0, 0), 62);
        Check.bytes("as it lies there", v, 128 + 13, 3, 10, 232, 3, 1, 62, 17, 1, 63, 0, 0);
        Check.same("mount()", v.mount(), 0);
        Check.same("the run", v.run(1, 0, 0), 63);
        Check.same("the hole", v.run(2, 0, 0), 62);
        Check.same("the last byte", v.read(2, 999), 5);
        Check.same("the one before", v.read(2, 998), 0);
        Check.same("free()", v.free(), 16);
    }

    /** Cluster 48 and then cluster 127: 79 behind it. */
    private static void farthestForward() {
        FixupVolume v = withFiles(3);
        oneCluster(v, 1);
        write(v, 2, 1000);
        write(v, 3, 240);
        Check.same("one is left", v.free(), 1);
        v.write(1, 64, 1, 77);
        Check.same("the last one", v.run(1, 2, 1), 127);
        Check.bytes("as it lies there", v, 64 + 13, 3, 13, 65, 0, 1, 3, 17, 1, 0, 17, 1, 79, 0, 0);
        v.mount();
        Check.same("the last one as mounting finds it", v.run(1, 2, 1), 127);
        Check.same("its byte", v.read(1, 64), 77);
        Check.same("as it lies there", v.at(2032), 77);
    }

    /** Cluster 127 and then cluster 48: 79 before it, which is 177 modulo 256. */
    private static void farthestBack() {
        FixupVolume v = withFiles(3);
        write(v, 1, 1000);
        write(v, 2, 256);
        oneCluster(v, 3);
        Check.same("the last cluster", v.run(3, 1, 1), 127);
        v.cut(1, 0);
        v.write(3, 64, 1, 77);
        Check.same("the first one", v.run(3, 2, 1), 48);
        Check.bytes("as it lies there", v, 192 + 13, 3, 13, 65, 0, 1, 3, 17, 1, 79, 17, 1, 177, 0, 0);
        v.mount();
        Check.same("the first one as mounting finds it", v.run(3, 2, 1), 48);
        Check.same("its byte", v.read(3, 64), 77);
        Check.same("the last one's byte", v.read(3, 63), 45);
        Check.same("free()", v.free(), 62);
    }

    /** A run is behind the first cluster of the run before it, not behind its last one, nor behind the hole. */
    private static void behindTheRunBeforeTheHole() {
        FixupVolume v = withFiles(2);
        write(v, 1, 60);
        oneCluster(v, 2);
        v.write(1, 96, 16, 9);
        Check.bytes("as it lies there", v, 64 + 13, 3, 13, 112, 0, 17, 4, 0, 1, 2, 17, 1, 5, 0, 0);
        v.write(1, 144, 16, 9);
        Check.bytes("the third, up to its sector's end", v, 64 + 13, 3, 18, 160, 0, 17, 4, 0, 1, 2, 17, 1, 5,
                1, 2, 17, 1, 1, 4, 0);
        v.mount();
        Check.same("the second run", v.run(1, 2, 1), 53);
        Check.same("the third run", v.run(1, 4, 1), 54);
        Check.same("a byte of it", v.read(1, 159), 24);
    }

    private static void clustersGivenInOrder() {
        FixupVolume v = withFiles(6);
        for (int r = 1; r <= 5; r++) {
            oneCluster(v, r);
        }
        v.remove(1);
        v.remove(5);
        v.remove(3);
        Check.same("free()", v.free(), 78);
        v.write(6, 48, 60, 1);
        int[] dueLength = {3, 1, 1, 2};
        int[] dueFirst = {FixupVolume.NONE, 48, 50, 52};
        for (int k = 0; k < 4; k++) {
            Check.same("length of run " + k, v.run(6, k, 0), dueLength[k]);
            Check.same("first of run " + k, v.run(6, k, 1), dueFirst[k]);
        }
        Check.same("behind them", v.run(6, 4, 0), FixupVolume.NONE);
        for (int k = 48; k < 108; k++) {
            Check.same("byte " + k, v.read(6, k), k - 47);
        }
        Check.same("one between them stays", v.read(2, 48), 20);
        Check.same("the other one too", v.read(4, 63), 55);
    }

    private static void clustersOfACutAreGivenLater() {
        FixupVolume v = withFiles(2);
        write(v, 1, 60);
        oneCluster(v, 2);
        v.cut(1, 16);
        Check.same("free()", v.free(), 78);
        v.write(2, 64, 32, 1);
        Check.same("the lowest ones", v.run(2, 2, 1), 49);
        Check.same("both", v.run(2, 2, 0), 2);
        v.write(1, 16, 32, 200);
        Check.same("the one behind them", v.run(1, 0, 0), 1);
        Check.same("is given first", v.run(1, 1, 1), 51);
        Check.same("then the next one behind all", v.run(1, 2, 1), 53);
    }

    private static void recordsGivenByRisingNumbers() {
        FixupVolume v = withFiles(11);
        v.remove(11);
        v.remove(4);
        v.remove(7);
        Check.same("the lowest", Check.file(v, 0, "x"), 4);
        Check.same("the next one", Check.file(v, 0, "y"), 7);
        Check.same("the last one", Check.file(v, 0, "z"), 11);
        Check.call("and no more", () -> Check.file(v, 0, "w"), Check.UNSUPPORTED);
    }
}
