/** Promise 6: files and empty directories go. */
public final class RemoveTest {
    public static void main(String[] args) {
        fileOutside();
        bytesOfAFreeRecord();
        directories();
        wrongArguments();
        goesOffAtEachSector();
        howManyClusters();
        lastOfAFullList();
        Check.end();
    }

    private static void fileOutside() {
        FixupVolume v = new FixupVolume();
        Check.file(v, 0, "f");
        Check.file(v, 0, "g");
        v.write(1, 0, 50, 1);
        v.write(1, 400, 20, 1);
        v.write(2, 0, 60, 7);
        Check.same("free()", v.free(), 70);
        Check.call("remove", () -> v.remove(1), 6);
        Check.same("free()", v.free(), 76);
        Check.list("the root", v, 0, 2);
        Check.same("record 1", v.record(1, 0), FixupVolume.NONE);
        Check.same("the root's number", v.record(0, 2), 4);
        Check.same("the other one stays", v.read(2, 59), 66);
        Check.call("once more", () -> v.remove(1), Check.ARGUMENT);
        Check.call("a file inside", () -> {
            Check.file(v, 0, "h");
            v.write(1, 0, 10, 1);
            return v.remove(1);
        }, 0);
    }

    private static void bytesOfAFreeRecord() {
        FixupVolume v = new FixupVolume();
        Check.directory(v, 0, "d");
        Check.file(v, 1, "file");
        v.write(2, 0, 45, 1);
        v.remove(2);
        for (int k = 0; k < 64; k++) {
            boolean isNumber = k == 2 || k == 30 || k == 62;
            Check.same("byte " + k, v.at(128 + k), isNumber ? 3 : 0);
        }
        Check.list("its parent", v, 1);
        Check.same("its parent's number", v.record(1, 2), 3);
        Check.same("the root isn't written", v.record(0, 2), 2);
    }

    private static void directories() {
        FixupVolume v = new FixupVolume();
        Check.directory(v, 0, "d");
        Check.directory(v, 1, "e");
        Check.call("with an entry", () -> v.remove(1), Check.ARGUMENT);
        Check.same("stays", v.record(1, 4), 1);
        Check.call("without", () -> v.remove(2), 0);
        Check.call("now without", () -> v.remove(1), 0);
        Check.list("the root", v, 0);
    }

    private static void wrongArguments() {
        FixupVolume v = new FixupVolume();
        int[] none = {0, 1, 11, 12, -1, Integer.MIN_VALUE, Integer.MAX_VALUE};
        for (int r : none) {
            Check.call("record " + r, () -> v.remove(r), Check.ARGUMENT);
        }
        Check.same("nothing was written", v.record(0, 2), 1);
    }

    /** The parent first: until the record itself is written, mounting brings it back. */
    private static void goesOffAtEachSector() {
        int[] writes = {0, 2, 1, 0};
        int[] length = {1, 1, 1, 0};
        for (int n = 1; n <= 4; n++) {
            FixupVolume v = new FixupVolume();
            Check.file(v, 0, "f");
            v.write(1, 0, 60, 1);
            Check.cutOff(v, n, () -> v.remove(1));
            Check.call("off", () -> v.remove(0), Check.STATE);
            Check.same("mount(), cut " + n, v.mount(), writes[n - 1]);
            Check.same("the root's list, cut " + n, v.record(0, 4), length[n - 1]);
            Check.same("the file, cut " + n, v.record(1, 4), n < 4 ? 60 : FixupVolume.NONE);
            Check.same("free(), cut " + n, v.free(), n < 4 ? 76 : 80);
        }
        FixupVolume v = new FixupVolume();
        Check.file(v, 0, "f");
        v.fail(5);
        Check.call("four sectors alone", () -> v.remove(1), 0);
    }

    private static void howManyClusters() {
        FixupVolume v = new FixupVolume();
        Check.file(v, 0, "f");
        Check.call("a file with no bytes", () -> v.remove(1), 0);
        Check.file(v, 0, "f");
        v.write(1, 0, 49, 1);
        Check.call("one that is full inside", () -> v.remove(1), 0);
        Check.file(v, 0, "f");
        v.write(1, 999, 1, 1);
        Check.call("holes are none", () -> v.remove(1), 1);
        Check.file(v, 0, "f");
        v.write(1, 100, 10, 1);
        v.cut(1, 50);
        Check.call("a hole alone", () -> v.remove(1), 0);
        Check.file(v, 0, "f");
        for (int at = 0; at < 1000; at += 50) {
            v.write(1, at, 50, 1);
        }
        Check.call("as many as a file can have", () -> v.remove(1), 63);
        Check.same("free()", v.free(), 80);
    }

    private static void lastOfAFullList() {
        FixupVolume v = new FixupVolume();
        Check.directory(v, 0, "d");
        for (int r = 2; r < 12; r++) {
            Check.file(v, 1, "f" + r);
        }
        for (int r = 11; r >= 2; r--) {
            Check.call("with " + (r - 1) + " entries", () -> v.remove(1), Check.ARGUMENT);
            v.remove(r);
        }
        Check.call("with none", () -> v.remove(1), 0);
    }
}
