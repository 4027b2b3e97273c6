/** Promise 14: the runs of a file. */
public final class RunTest {
    public static void main(String[] args) {
        FixupVolume v = new FixupVolume();
        Check.file(v, 0, "f");
        Check.directory(v, 0, "d");
        Check.file(v, 0, "in");
        v.write(1, 33, 30, 1);
        v.write(1, 200, 40, 1);
        v.write(3, 0, 10, 1);
        Check.same("runs", v.record(1, 6), 4);
        int[] dueLength = {2, 2, 8, 3};
        int[] dueFirst = {FixupVolume.NONE, 48, FixupVolume.NONE, 50};
        runs(v, dueLength, dueFirst);
        v.mount();
        runs(v, dueLength, dueFirst);
        wrongArguments(v);
        holeAlone();
        Check.end();
    }

    private static void runs(FixupVolume v, int[] length, int[] first) {
        for (int k = 0; k < length.length; k++) {
            Check.same("length of run " + k, v.run(1, k, 0), length[k]);
            Check.same("first cluster of run " + k, v.run(1, k, 1), first[k]);
        }
        Check.same("behind the last one", v.run(1, length.length, 0), FixupVolume.NONE);
        Check.same("behind the last one", v.run(1, length.length, 1), FixupVolume.NONE);
    }

    private static void wrongArguments(FixupVolume v) {
        int[] others = {-1, 12, Integer.MIN_VALUE, Integer.MAX_VALUE};
        for (int x : others) {
            Check.same("run " + x, v.run(1, x, 0), FixupVolume.NONE);
            Check.same("what " + x, v.run(1, 0, x), FixupVolume.NONE);
            Check.same("file " + x, v.run(x, 0, 0), FixupVolume.NONE);
        }
        Check.same("what 2", v.run(1, 0, 2), FixupVolume.NONE);
        int[] none = {0, 2, 3, 4, 11};
        for (int r : none) {
            Check.same("file " + r, v.run(r, 0, 0), FixupVolume.NONE);
            Check.same("file " + r, v.run(r, 0, 1), FixupVolume.NONE);
        }
    }

    private static void holeAlone() {
        FixupVolume v = new FixupVolume();
        Check.file(v, 0, "f");
        Check.same("a file with no bytes", v.run(1, 0, 0), FixupVolume.NONE);
        v.write(1, 100, 1, 1);
        v.cut(1, 1);
        Check.same("its length", v.run(1, 0, 0), 1);
        Check.same("its first cluster", v.run(1, 0, 1), FixupVolume.NONE);
        Check.same("behind it", v.run(1, 1, 0), FixupVolume.NONE);
        v.cut(1, 0);
        Check.same("inside again", v.run(1, 0, 0), FixupVolume.NONE);
        v.write(1, 100, 1, 1);
        v.remove(1);
        Check.same("removed", v.run(1, 0, 0), FixupVolume.NONE);
    }
}
