/** Promise 5: a file becomes shorter. */
public final class CutTest {
    private static final int DATA = 48 * 16;

    public static void main(String[] args) {
        inside();
        outsideStaysSo();
        toNothing();
        behindTheEndIsZero();
        inAHole();
        sameSize();
        wrongArguments();
        goesOff();
        emptyFile();
        edgesOfSize();
        behindTheEndOfATornCall();
        Check.end();
    }

    private static FixupVolume withBytes(int n) {
        FixupVolume v = new FixupVolume();
        Check.file(v, 0, "f");
        for (int at = 0; at < n; at += 50) {
            v.write(1, at, Math.min(50, n - at), 1 + at);
        }
        return v;
    }

    private static void inside() {
        FixupVolume v = withBytes(40);
        Check.call("cut to 7", () -> v.cut(1, 7), 40);
        Check.same("size", v.record(1, 4), 7);
        Check.same("attributes", v.record(1, 3), 3 + 2 + 7);
        Check.same("number", v.record(1, 2), 3);
        Check.same("the last byte", v.read(1, 6), 7);
        Check.same("behind it", v.read(1, 7), FixupVolume.NONE);
        Check.bytes("the record", v, 64 + 20, 6, 7, 0, 0, 0);
        Check.call("cut to 0", () -> v.cut(1, 0), 7);
        Check.same("kind", v.record(1, 5), 2);
    }

    private static void outsideStaysSo() {
        FixupVolume v = withBytes(100);
        Check.same("free()", v.free(), 73);
        Check.call("cut to 33", () -> v.cut(1, 33), 100);
        Check.same("free()", v.free(), 77);
        Check.same("run", v.run(1, 0, 0), 3);
        Check.call("cut to 32", () -> v.cut(1, 32), 33);
        Check.same("free()", v.free(), 78);
        Check.call("cut to 1", () -> v.cut(1, 1), 32);
        Check.same("free()", v.free(), 79);
        Check.same("kind", v.record(1, 5), 3);
        Check.same("attributes", v.record(1, 3), 3 + 5 + 3);
        Check.same("read", v.read(1, 0), 1);
        Check.bytes("the record", v, 64 + 13, 3, 8, 1, 0, 17, 1, 0, 0, 0);
    }

    private static void toNothing() {
        FixupVolume v = withBytes(100);
        Check.call("cut to 0", () -> v.cut(1, 0), 100);
        Check.same("free()", v.free(), 80);
        Check.same("kind", v.record(1, 5), 2);
        Check.same("runs", v.record(1, 6), 0);
        Check.same("attributes", v.record(1, 3), 5);
        Check.same("what was set free keeps its bytes", v.at(DATA), 1);
        Check.same("write", v.write(1, 3, 2, 8), 5);
        Check.same("it is inside again", v.record(1, 5), 2);
        Check.same("and 0 before it", v.read(1, 0), 0);
    }

    private static void behindTheEndIsZero() {
        FixupVolume v = withBytes(64);
        v.cut(1, 40);
        Check.bytes("its last cluster", v, DATA + 38, 39, 40, 0, 0, 0, 0, 0, 0, 0, 0);
        Check.same("the next one", v.at(DATA + 48), 49);
        v.write(1, 50, 1, 7);
        Check.same("between the end and at", v.read(1, 45), 0);
        Check.same("in the next one too", v.read(1, 49), 0);
        FixupVolume w = withBytes(64);
        w.cut(1, 48);
        Check.bytes("at a cluster's end", w, DATA + 47, 48, 49);
    }

    private static void inAHole() {
        FixupVolume v = withBytes(16);
        v.write(1, 200, 10, 1);
        Check.same("free()", v.free(), 77);
        Check.call("cut to 100", () -> v.cut(1, 100), 210);
        Check.same("free()", v.free(), 79);
        Check.same("runs", v.record(1, 6), 2);
        Check.same("the hole", v.run(1, 1, 0), 6);
        Check.same("read", v.read(1, 99), 0);
        v.write(1, 0, 1, 5);
        Check.same("the hole stays", v.run(1, 1, 0), 6);
        FixupVolume w = new FixupVolume();
        Check.file(w, 0, "f");
        w.write(1, 100, 10, 1);
        Check.call("a hole alone", () -> w.cut(1, 33), 110);
        Check.same("runs", w.record(1, 6), 1);
        Check.same("of three clusters", w.run(1, 0, 0), 3);
        Check.same("free()", w.free(), 80);
        Check.same("kind", w.record(1, 5), 3);
    }

    private static void sameSize() {
        FixupVolume v = withBytes(20);
        Check.call("its own size", () -> v.cut(1, 20), 20);
        Check.same("is written", v.record(1, 2), 3);
        FixupVolume w = withBytes(60);
        Check.cutOff(w, 1, () -> w.write(1, 60, 4, 9));
        w.mount();
        Check.same("left behind the end", w.at(DATA + 60), 9);
        Check.call("its own size, outside", () -> w.cut(1, 60), 60);
        Check.bytes("is 0 now", w, DATA + 59, 60, 0, 0, 0, 0);
    }

    private static void wrongArguments() {
        FixupVolume v = withBytes(60);
        int d = Check.directory(v, 0, "d");
        int[] none = {0, d, 3, 11, 12, -1, Integer.MIN_VALUE, Integer.MAX_VALUE};
        for (int r : none) {
            Check.call("file " + r, () -> v.cut(r, 0), Check.ARGUMENT);
        }
        int[] sizes = {-1, 61, 1000, Integer.MIN_VALUE, Integer.MAX_VALUE};
        for (int size : sizes) {
            Check.call("size " + size, () -> v.cut(1, size), Check.ARGUMENT);
        }
        Check.same("nothing was written", v.record(1, 2), 3);
    }

    private static void goesOff() {
        FixupVolume v = withBytes(60);
        Check.cutOff(v, 1, () -> v.cut(1, 20));
        Check.bytes("0 before the record is written", v, DATA + 19, 20, 0, 0);
        Check.call("off", () -> v.cut(99, -1), Check.STATE);
        v.mount();
        Check.same("the size is as before", v.record(1, 4), 60);
        Check.same("free()", v.free(), 76);
        Check.same("what was made 0", v.read(1, 20), 0);
        Check.same("what wasn't", v.read(1, 40), 41);
        Check.cutOff(v, 2, () -> v.cut(1, 20));
        Check.same("mount()", v.mount(), 1);
        Check.same("it was torn", v.record(1, 0), FixupVolume.NONE);
    }

    private static void emptyFile() {
        FixupVolume v = withBytes(0);
        Check.call("0 of 0 bytes", () -> v.cut(1, 0), 0);
        Check.same("is written", v.record(1, 2), 2);
        Check.call("1 of 0 bytes", () -> v.cut(1, 1), Check.ARGUMENT);
        Check.same("isn't", v.record(1, 2), 2);
    }

    private static void edgesOfSize() {
        int[] sizes = {1, 49, 50, 1000};
        for (int size : sizes) {
            FixupVolume v = withBytes(size);
            Check.call("one more than " + size, () -> v.cut(1, size + 1), Check.ARGUMENT);
            Check.call("less than nothing", () -> v.cut(1, -1), Check.ARGUMENT);
            Check.call(size + " of " + size, () -> v.cut(1, size), size);
            Check.same("its kind stays", v.record(1, 5), size <= 49 ? 2 : 3);
            Check.call("one less", () -> v.cut(1, size - 1), size);
            Check.same("its size", v.record(1, 4), size - 1);
            Check.same("its kind", v.record(1, 5), size <= 49 ? 2 : 3);
            Check.call("nothing", () -> v.cut(1, 0), size - 1);
            Check.same("it is inside", v.record(1, 5), 2);
            Check.same("free()", v.free(), 80);
        }
    }

    /** What a write that went off left behind the end isn't seen when the file grows again. */
    private static void behindTheEndOfATornCall() {
        FixupVolume v = withBytes(50);
        v.write(1, 50, 2, 1);
        Check.cutOff(v, 1, () -> v.write(1, 52, 12, 90));
        v.mount();
        Check.same("left behind the end", v.at(DATA + 60), 98);
        v.cut(1, 51);
        Check.bytes("is 0 now", v, DATA + 50, 1, 0, 0, 0, 0, 0, 0, 0, 0, 0, 0, 0, 0, 0);
    }
}
