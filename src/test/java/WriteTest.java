/** Promise 4: bytes inside and outside, holes, runs, and what lies in the clusters. */
public final class WriteTest {
    private static final int DATA = 48 * 16;

    public static void main(String[] args) {
        insideAndItsEdge();
        gapInsideIsZero();
        valuesWrapAround();
        fromInsideToOutside();
        emptyFileWrittenFarOut();
        holesStayAndAreFilled();
        runsGrowTogether();
        runsBackwards();
        givenClustersAreCleared();
        keptWords();
        wrongArguments();
        tooFewClusters();
        tooManyRuns();
        goesOff();
        leftBytesBehindTheEnd();
        edgesOfPlaceAndCount();
        outsideStaysSoWhenSmall();
        hasOneByteTooManyOfRuns();
        runsBecomeOneAroundAHole();
        holesBecomeOne();
        lastClusterFilledToItsEnd();
        otherBytesOfAFilledHole();
        edgesOfAHolesClusters();
        Check.end();
    }

    private static FixupVolume withFile(String name) {
        FixupVolume v = new FixupVolume();
        Check.file(v, 0, name);
        return v;
    }

    private static void insideAndItsEdge() {
        for (int length = 1; length <= 8; length++) {
            String name = "abcdefgh".substring(0, length);
            int most = 54 - (2 + length) - 2;
            FixupVolume v = withFile(name);
            Check.call(most + " bytes", () -> v.write(1, 0, most, 1), most);
            Check.same("are inside", v.record(1, 5), 2);
            Check.same("fill the record", v.record(1, 3), 54);
            Check.same("no cluster is taken", v.free(), 80);
            Check.call("one more", () -> v.write(1, most, 1, 200), most + 1);
            Check.same("is outside", v.record(1, 5), 3);
            Check.same("the first", v.read(1, 0), 1);
            Check.same("the last one before", v.read(1, most - 1), most);
            Check.same("the last", v.read(1, most), 200);
            Check.same("behind it", v.read(1, most + 1), FixupVolume.NONE);
        }
    }

    private static void gapInsideIsZero() {
        FixupVolume v = withFile("f");
        Check.call("two", () -> v.write(1, 0, 20, 50), 20);
        v.cut(1, 2);
        Check.call("at 5", () -> v.write(1, 5, 2, 9), 7);
        int[] due = {50, 51, 0, 0, 0, 9, 10};
        for (int k = 0; k < due.length; k++) {
            Check.same("byte " + k, v.read(1, k), due[k]);
        }
        Check.call("within", () -> v.write(1, 1, 1, 7), 7);
        Check.same("byte 1", v.read(1, 1), 7);
        Check.same("byte 6 stays", v.read(1, 6), 10);
        Check.bytes("the record", v, 64 + 8, 3 + 2 + 7, 0, 1, 3, 'f', 2, 9, 50, 7, 0, 0, 0, 9, 10, 0);
    }

    private static void valuesWrapAround() {
        FixupVolume v = withFile("f");
        int[] from = {254, -3, -1, 256, Integer.MAX_VALUE, Integer.MIN_VALUE, 1000};
        for (int b : from) {
            Check.call("b " + b, () -> v.write(1, 0, 4, b), 4);
            for (int k = 0; k < 4; k++) {
                Check.same("b " + b + ", byte " + k, v.read(1, k), Math.floorMod((long) b + k, 256L));
            }
        }
    }

    private static void fromInsideToOutside() {
        FixupVolume v = withFile("f");
        v.write(1, 0, 17, 100);
        Check.call("at 80", () -> v.write(1, 80, 10, 1), 90);
        Check.same("attributes", v.record(1, 3), 3 + 5 + 3 + 2 + 3);
        Check.same("runs", v.record(1, 6), 3);
        Check.same("run 0", v.run(1, 0, 0), 2);
        Check.same("run 1 is a hole", v.run(1, 1, 1), FixupVolume.NONE);
        Check.same("run 1", v.run(1, 1, 0), 3);
        Check.same("run 2 begins", v.run(1, 2, 1), 50);
        Check.bytes("the record", v, 64 + 8, 16, 0, 1, 3, 'f', 3, 13, 90, 0, 17, 2, 0, 1, 3, 17, 1, 2, 0, 0);
        Check.bytes("cluster 49", v, DATA + 16, 116, 0, 0);
        Check.bytes("cluster 50", v, DATA + 32, 1, 2, 3, 4, 5, 6, 7, 8, 9, 10, 0, 0, 0, 0, 0, 0);
        for (int k = 17; k < 80; k++) {
            Check.same("byte " + k, v.read(1, k), 0);
        }
        Check.same("free()", v.free(), 77);
    }

    private static void emptyFileWrittenFarOut() {
        FixupVolume v = withFile("f");
        Check.call("at 940", () -> v.write(1, 940, 60, 0), 1000);
        Check.same("runs", v.record(1, 6), 2);
        Check.same("the hole", v.run(1, 0, 0), 58);
        Check.same("is one", v.run(1, 0, 1), FixupVolume.NONE);
        Check.same("five clusters", v.run(1, 1, 0), 5);
        Check.same("from 48 on", v.run(1, 1, 1), 48);
        Check.same("free()", v.free(), 75);
        Check.bytes("the record", v, 64 + 13, 3, 10, 232, 3, 1, 58, 17, 5, 0, 0, 0);
        Check.bytes("the first cluster", v, DATA + 10, 0, 0, 0, 1);
    }

    private static void holesStayAndAreFilled() {
        FixupVolume v = withFile("f");
        v.write(1, 0, 16, 1);
        v.write(1, 160, 16, 1);
        Check.call("in the hole", () -> v.write(1, 60, 10, 30), 176);
        Check.same("runs", v.record(1, 6), 5);
        Check.same("a hole", v.run(1, 1, 0), 2);
        Check.same("filled", v.run(1, 2, 0), 2);
        Check.same("with the next clusters", v.run(1, 2, 1), 50);
        Check.same("a hole", v.run(1, 3, 0), 5);
        Check.same("the byte before", v.read(1, 59), 0);
        Check.same("the first byte", v.read(1, 60), 30);
        Check.same("the byte behind", v.read(1, 70), 0);
        Check.call("at the hole's start", () -> v.write(1, 16, 1, 5), 176);
        Check.same("joins no run that lies elsewhere", v.run(1, 1, 1), 52);
        Check.same("runs", v.record(1, 6), 6);
        Check.same("free()", v.free(), 75);
        v.cut(1, 100);
        Check.same("ends in a hole", v.run(1, 4, 1), FixupVolume.NONE);
        Check.same("of two clusters", v.run(1, 4, 0), 2);
        Check.call("far behind it", () -> v.write(1, 130, 2, 5), 132);
        Check.same("the hole is one with the new one", v.run(1, 4, 0), 3);
        Check.same("and then a run", v.run(1, 5, 0), 1);
    }

    private static void runsGrowTogether() {
        FixupVolume v = withFile("f");
        v.write(1, 0, 60, 0);
        v.write(1, 60, 60, 0);
        Check.same("one run", v.record(1, 6), 1);
        Check.same("of eight", v.run(1, 0, 0), 8);
        v.cut(1, 0);
        v.write(1, 32, 60, 0);
        Check.same("a hole first", v.run(1, 0, 0), 2);
        Check.file(v, 0, "g");
        v.write(2, 0, 60, 0);
        Check.same("the other one's place", v.run(2, 0, 1), 52);
        v.cut(1, 0);
        v.write(1, 0, 60, 0);
        Check.call("behind the other one", () -> v.write(1, 60, 20, 0), 80);
        Check.same("two runs", v.record(1, 6), 2);
        Check.same("the second one's place", v.run(1, 1, 1), 56);
        Check.bytes("their bytes", v, 64 + 13, 3, 11, 80, 0, 17, 4, 0, 17, 1, 8, 0, 0);
    }

    /** A run that lies before the one before it: how far it is behind, modulo 256. */
    private static void runsBackwards() {
        FixupVolume v = withFile("f");
        v.write(1, 0, 60, 0);
        Check.file(v, 0, "g");
        v.write(2, 0, 60, 9);
        v.cut(1, 0);
        v.write(2, 80, 30, 7);
        Check.same("the run behind the hole", v.run(2, 2, 1), 48);
        Check.bytes("the record", v, 128 + 13, 3, 13, 110, 0, 17, 4, 4, 1, 1, 17, 2, 252, 0);
        Check.same("read", v.read(2, 109), 36);
        v.mount();
        Check.same("the run as mounting finds it", v.run(2, 2, 1), 48);
        Check.same("read as mounting finds it", v.read(2, 80), 7);
        Check.same("free()", v.free(), 74);
    }

    private static void givenClustersAreCleared() {
        FixupVolume v = withFile("f");
        v.write(1, 0, 60, 100);
        v.write(1, 60, 60, 100);
        v.cut(1, 0);
        Check.same("a cluster that was set free keeps its bytes", v.at(DATA), 100);
        Check.call("at 72", () -> v.write(1, 72, 2, 1), 74);
        Check.bytes("its cluster", v, DATA, 0, 0, 0, 0, 0, 0, 0, 0, 1, 2, 0, 0, 0, 0, 0, 0);
        Check.same("the next one keeps its bytes", v.at(DATA + 16), 116);
        Check.call("in the hole", () -> v.write(1, 20, 1, 7), 74);
        Check.bytes("its cluster", v, DATA + 16, 0, 0, 0, 0, 7, 0, 0, 0, 0, 0, 0, 0, 0, 0, 0, 0);
    }

    /** Bytes 30, 31, 62 and 63 of a record hold its number; what they say stands in bytes 4 .. 7. */
    private static void keptWords() {
        FixupVolume v = withFile("f");
        v.write(1, 0, 49, 100);
        Check.bytes("the head", v, 64, 1, 0, 2, 0, 115, 116, 147, 148, 54, 0, 1, 3, 'f', 2, 51, 100);
        Check.bytes("sector 0's end", v, 64 + 29, 114, 2, 0, 117);
        Check.bytes("sector 1's end", v, 64 + 61, 146, 2, 0);
        v.mount();
        Check.same("byte 15", v.read(1, 15), 115);
        Check.same("byte 16", v.read(1, 16), 116);
        Check.same("byte 47", v.read(1, 47), 147);
        Check.same("byte 48", v.read(1, 48), 148);
    }

    private static void wrongArguments() {
        FixupVolume v = withFile("f");
        int d = Check.directory(v, 0, "d");
        int[] none = {0, d, 3, 11, 12, -1, Integer.MIN_VALUE, Integer.MAX_VALUE};
        for (int r : none) {
            Check.call("file " + r, () -> v.write(r, 0, 1, 1), Check.ARGUMENT);
        }
        int[][] places = {{-1, 1}, {1000, 1}, {1001, 1}, {0, 0}, {0, -1}, {0, 61}, {941, 60}, {999, 2},
                {Integer.MAX_VALUE, 1}, {Integer.MAX_VALUE, Integer.MAX_VALUE},
                {Integer.MIN_VALUE, 5}, {5, Integer.MIN_VALUE}};
        for (int[] p : places) {
            Check.call("at " + p[0] + ", n " + p[1], () -> v.write(1, p[0], p[1], 1), Check.ARGUMENT);
        }
        Check.same("nothing was written", v.record(1, 2), 1);
        Check.call("the last place", () -> v.write(1, 999, 1, 1), 1000);
        Check.call("n 60", () -> v.write(1, 940, 60, 1), 1000);
    }

    private static void fill(FixupVolume v, int file, int size) {
        for (int at = 0; at < size; at += 50) {
            v.write(file, at, Math.min(50, size - at), at);
        }
    }

    private static void tooFewClusters() {
        FixupVolume v = withFile("f");
        Check.file(v, 0, "g");
        fill(v, 1, 1000);
        Check.same("free()", v.free(), 17);
        fill(v, 2, 264);
        Check.same("all are taken", v.free(), 0);
        Check.call("in its last cluster", () -> v.write(2, 264, 8, 1), 272);
        int number = v.record(2, 2);
        Check.call("one cluster more", () -> v.write(2, 262, 11, 77), Check.UNSUPPORTED);
        Check.same("its size stays", v.record(2, 4), 272);
        Check.same("its bytes stay", v.read(2, 262), (250 + 12) & 255);
        Check.same("its number stays", v.record(2, 2), number);
        Check.file(v, 0, "h");
        Check.call("inside it still goes", () -> v.write(3, 0, 49, 1), 49);
        Check.call("outside it doesn't", () -> v.write(3, 49, 1, 1), Check.UNSUPPORTED);
        Check.same("inside it stays", v.record(3, 5), 2);
        v.cut(1, 1000 - 40);
        Check.same("free()", v.free(), 3);
        Check.call("three are too few", () -> v.write(3, 49, 1, 1), Check.UNSUPPORTED);
        Check.same("none was taken", v.free(), 3);
        v.cut(1, 1000 - 60);
        Check.call("four are enough", () -> v.write(3, 49, 1, 1), 50);
        Check.same("free()", v.free(), 0);
    }

    /** A name of 7 leaves 40 bytes for runs: those of eight holes, 2 each, and eight runs, 3 each. */
    private static void tooManyRuns() {
        FixupVolume v = withFile("abcdefg");
        for (int k = 0; k < 8; k++) {
            int at = 64 + 32 * k;
            Check.call("run " + k, () -> v.write(1, at, 16, 1), at + 16);
        }
        Check.same("runs", v.record(1, 6), 16);
        Check.same("they fill the record", v.record(1, 3), 54);
        Check.call("one run more", () -> v.write(1, 320, 1, 1), Check.UNSUPPORTED);
        Check.call("a run more in a hole", () -> v.write(1, 0, 1, 1), Check.UNSUPPORTED);
        Check.same("none was taken", v.free(), 72);
        Check.same("the size stays", v.record(1, 4), 304);
        Check.call("the last run becomes longer", () -> v.write(1, 304, 16, 1), 320);
        Check.same("runs", v.record(1, 6), 16);
        Check.call("within it", () -> v.write(1, 70, 1, 99), 320);
        v.mount();
        Check.same("runs as mounting finds them", v.record(1, 6), 16);
        Check.same("the last one", v.run(1, 15, 0), 2);
        Check.same("and its place", v.run(1, 15, 1), 55);
        Check.same("a byte", v.read(1, 70), 99);
    }

    private static void goesOff() {
        for (int n = 1; n <= 2; n++) {
            FixupVolume v = withFile("f");
            v.write(1, 0, 60, 1);
            int cutAt = n;
            Check.cutOff(v, cutAt, () -> v.write(1, 50, 60, 200));
            Check.same("what was put into clusters stays", v.at(DATA + 50), 200);
            Check.same("in new ones too", v.at(DATA + 109), (200 + 59) & 255);
            Check.same("writes of the record", v.at(64 + 2), n == 1 ? 2 : 3);
            Check.call("off", () -> v.write(99, -1, -1, 0), Check.STATE);
            v.mount();
            Check.same("the size", v.record(1, 4), n == 1 ? 60 : FixupVolume.NONE);
            Check.same("byte 50", v.read(1, 50), n == 1 ? 200 : FixupVolume.NONE);
            Check.same("free()", v.free(), n == 1 ? 76 : 80);
        }
        FixupVolume v = withFile("f");
        v.fail(3);
        Check.call("two sectors alone", () -> v.write(1, 0, 60, 1), 60);
        Check.cutOff(v, 1, () -> v.write(1, 0, 1, 1));
    }

    private static FixupVolume withBytesBehindTheEnd() {
        FixupVolume v = withFile("f");
        v.write(1, 0, 50, 1);
        Check.cutOff(v, 1, () -> v.write(1, 50, 14, 90));
        v.mount();
        Check.same("the end is where it was", v.record(1, 4), 50);
        Check.same("a byte behind it", v.at(DATA + 63), 103);
        return v;
    }

    private static void leftBytesBehindTheEnd() {
        FixupVolume v = withBytesBehindTheEnd();
        v.write(1, 0, 1, 1);
        Check.bytes("written before the end", v, DATA + 49, 50, 0, 0, 0, 0, 0, 0, 0, 0, 0, 0, 0, 0, 0, 0);
        FixupVolume w = withBytesBehindTheEnd();
        w.write(1, 70, 1, 1);
        Check.bytes("written in a later cluster", w, DATA + 49, 50, 0, 0, 0, 0, 0, 0, 0, 0, 0, 0, 0, 0, 0, 0);
        FixupVolume x = withBytesBehindTheEnd();
        x.write(1, 55, 2, 1);
        Check.bytes("written behind the end", x, DATA + 49, 50, 0, 0, 0, 0, 0, 1, 2, 0, 0, 0, 0, 0, 0, 0);
        FixupVolume y = withBytesBehindTheEnd();
        Check.cutOff(y, 1, () -> y.write(1, 55, 2, 1));
        Check.bytes("also if it goes off", y, DATA + 49, 50, 0, 0, 0, 0, 0, 1, 2, 0, 0, 0, 0, 0, 0, 0);
    }

    private static void edgesOfPlaceAndCount() {
        int[][] good = {{0, 1}, {0, 60}, {1, 59}, {940, 60}, {999, 1}};
        for (int[] p : good) {
            FixupVolume v = withFile("f");
            Check.call("at " + p[0] + ", n " + p[1], () -> v.write(1, p[0], p[1], 9), p[0] + p[1]);
            Check.same("the first byte", v.read(1, p[0]), 9);
            Check.same("the last byte", v.read(1, p[0] + p[1] - 1), 8 + p[1]);
            Check.same("behind it", v.read(1, p[0] + p[1]), FixupVolume.NONE);
        }
        int[][] wrong = {{-1, 60}, {0, 0}, {0, 61}, {941, 60}, {999, 2}, {1000, 1}, {1000, 0}, {1001, 1}, {1001, -1}};
        for (int[] p : wrong) {
            FixupVolume v = withFile("f");
            Check.call("at " + p[0] + ", n " + p[1], () -> v.write(1, p[0], p[1], 9), Check.ARGUMENT);
            Check.same("its size", v.record(1, 4), 0);
        }
    }

    private static void outsideStaysSoWhenSmall() {
        FixupVolume v = withFile("f");
        v.write(1, 0, 60, 1);
        v.cut(1, 1);
        Check.call("one byte behind it", () -> v.write(1, 1, 1, 7), 2);
        Check.same("kind", v.record(1, 5), 3);
        Check.same("free()", v.free(), 79);
        Check.call("in its only cluster", () -> v.write(1, 0, 16, 7), 16);
        Check.same("free()", v.free(), 79);
        Check.call("in the next one", () -> v.write(1, 16, 1, 7), 17);
        Check.same("free()", v.free(), 78);
        v.cut(1, 0);
        Check.same("with 0 bytes it is inside", v.record(1, 5), 2);
        Check.call("and can be filled again", () -> v.write(1, 0, 49, 1), 49);
        Check.same("inside", v.record(1, 5), 2);
    }

    /** A name of 8 leaves 39 bytes for runs, and eight holes with eight runs need 40. */
    private static void hasOneByteTooManyOfRuns() {
        FixupVolume v = withFile("abcdefgh");
        for (int k = 0; k < 7; k++) {
            v.write(1, 64 + 32 * k, 16, 1);
        }
        Check.same("attributes", v.record(1, 3), 50);
        Check.call("a hole and a run more", () -> v.write(1, 64 + 32 * 7, 16, 1), Check.UNSUPPORTED);
        Check.same("none was taken", v.free(), 73);
        Check.same("the size stays", v.record(1, 4), 272);
        Check.call("a run more where a hole begins", () -> v.write(1, 0, 1, 1), 272);
        Check.same("attributes", v.record(1, 3), 53);
        Check.call("a run more where a hole ends", () -> v.write(1, 63, 1, 1), Check.UNSUPPORTED);
        Check.call("a hole's only cluster", () -> v.write(1, 80, 1, 1), 272);
        Check.same("attributes", v.record(1, 3), 54);
        Check.call("a hole's only cluster once more", () -> v.write(1, 112, 1, 1), Check.UNSUPPORTED);
    }

    /** Another file has cluster 48 or 49 first, so that what fills the hole lies beside the run. */
    private static void runsBecomeOneAroundAHole() {
        FixupVolume v = withFile("f");
        Check.file(v, 0, "g");
        v.write(2, 64, 16, 1);
        v.write(1, 64, 16, 2);
        v.cut(2, 0);
        v.write(1, 48, 16, 3);
        Check.same("one with the run behind it", v.run(1, 1, 0), 2);
        Check.same("from the new cluster on", v.run(1, 1, 1), 48);
        Check.same("runs", v.record(1, 6), 2);
        FixupVolume w = withFile("f");
        Check.file(w, 0, "g");
        w.write(1, 64, 16, 1);
        w.write(2, 64, 16, 1);
        w.write(1, 96, 16, 2);
        Check.same("runs", w.record(1, 6), 4);
        w.cut(2, 0);
        w.write(1, 80, 16, 3);
        Check.same("one with those on both sides", w.run(1, 1, 0), 3);
        Check.same("from the first one on", w.run(1, 1, 1), 48);
        Check.same("runs", w.record(1, 6), 2);
        Check.bytes("as it lies there", w, 64 + 13, 3, 10, 112, 0, 1, 4, 17, 3, 0, 0, 0);
        Check.same("a byte of the third", w.read(1, 96), 2);
    }

    private static void holesBecomeOne() {
        FixupVolume v = withFile("f");
        v.write(1, 100, 10, 1);
        v.cut(1, 40);
        Check.same("a hole alone", v.run(1, 0, 0), 3);
        v.write(1, 100, 10, 1);
        Check.same("longer by what lies between", v.run(1, 0, 0), 6);
        Check.same("runs", v.record(1, 6), 2);
        Check.bytes("as it lies there", v, 64 + 13, 3, 10, 110, 0, 1, 6, 17, 1, 0, 0, 0);
    }

    private static void lastClusterFilledToItsEnd() {
        FixupVolume v = withFile("f");
        v.write(1, 0, 60, 100);
        v.write(1, 60, 60, 160);
        v.cut(1, 63);
        Check.same("the next cluster is free and keeps its bytes", v.at(DATA + 64), 164);
        Check.call("up to the cluster's end", () -> v.write(1, 63, 1, 1), 64);
        Check.same("free()", v.free(), 76);
        Check.same("the next cluster isn't touched", v.at(DATA + 64), 164);
        Check.call("one byte more", () -> v.write(1, 64, 1, 2), 65);
        Check.same("free()", v.free(), 75);
        Check.bytes("0 behind it", v, DATA + 63, 1, 2, 0, 0, 0, 0, 0, 0, 0, 0, 0, 0, 0, 0, 0, 0, 0, 180);
    }

    /** The cluster that is given had bytes of another file. */
    private static void otherBytesOfAFilledHole() {
        FixupVolume v = withFile("f");
        Check.file(v, 0, "g");
        v.write(1, 100, 10, 1);
        v.write(2, 0, 60, 100);
        v.remove(2);
        Check.same("what lies there", v.at(DATA + 16), 100);
        v.write(1, 37, 3, 7);
        for (int k = 0; k < 100; k++) {
            Check.same("byte " + k, v.read(1, k), k >= 37 && k < 40 ? k - 30 : 0);
        }
    }

    /** A hole's clusters are given for what is written in them, not for what only ends or begins beside them. */
    private static void edgesOfAHolesClusters() {
        int[][] written = {{16, 16, 1, 1}, {16, 15, 1, 1}, {17, 15, 1, 1}, {31, 1, 1, 1}, {15, 17, 0, 2},
                {16, 17, 1, 2}, {15, 2, 0, 2}, {31, 2, 1, 2}, {0, 16, 0, 1}, {80, 16, 5, 1}, {15, 18, 0, 3}};
        for (int[] w : written) {
            FixupVolume v = withFile("f");
            v.write(1, 96, 16, 1);
            String what = "at " + w[0] + ", n " + w[1];
            Check.call(what, () -> v.write(1, w[0], w[1], 9), 112);
            Check.same(what + ": free()", v.free(), 79 - w[3]);
            int k = w[2] == 0 ? 0 : 1;
            Check.same(what + ": the hole before", k == 0 ? 0 : v.run(1, 0, 0), w[2]);
            Check.same(what + ": its clusters", v.run(1, k, 0), w[3]);
            Check.same(what + ": the first one", v.run(1, k, 1), 49);
        }
    }
}
