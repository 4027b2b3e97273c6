/** Promise 7: a record comes into another directory. */
public final class MoveTest {
    public static void main(String[] args) {
        fileAndBack();
        directoryWithWhatItHas();
        listByNames();
        wrongArguments();
        goesOffAtEachSector();
        farBelowItself();
        nameOfAnotherThere();
        Check.end();
    }

    private static FixupVolume withTwo() {
        FixupVolume v = new FixupVolume();
        Check.directory(v, 0, "d");
        Check.directory(v, 0, "e");
        Check.file(v, 1, "f");
        return v;
    }

    private static void fileAndBack() {
        FixupVolume v = withTwo();
        v.write(3, 0, 60, 5);
        v.move(3, 2);
        Check.same("parent", v.record(3, 1), 2);
        Check.list("the one before", v, 1);
        Check.list("the new one", v, 2, 3);
        Check.same("its number", v.record(3, 2), 3);
        Check.same("the one before's number", v.record(1, 2), 3);
        Check.same("the new one's number", v.record(2, 2), 2);
        Check.same("the root's number", v.record(0, 2), 3);
        Check.same("its parent as it lies there", v.at(192 + 1), 2);
        Check.same("its bytes", v.read(3, 59), 64);
        Check.same("find", Check.found(v, 2, "f"), 3);
        v.move(3, 1);
        Check.list("back", v, 1, 3);
        Check.same("mount()", v.mount(), 0);
    }

    private static void directoryWithWhatItHas() {
        FixupVolume v = withTwo();
        v.move(1, 2);
        Check.list("the root", v, 0, 2);
        Check.list("the new one", v, 2, 1);
        Check.list("what moved", v, 1, 3);
        Check.call("below itself", () -> Check.moved(v, 2, 1), Check.ARGUMENT);
        v.move(1, 0);
        Check.list("up again", v, 0, 1, 2);
    }

    private static void listByNames() {
        FixupVolume v = withTwo();
        Check.file(v, 0, "b");
        Check.file(v, 0, "ff");
        Check.file(v, 0, "ee");
        v.move(3, 0);
        Check.list("the root", v, 0, 4, 1, 2, 6, 3, 5);
    }

    private static void wrongArguments() {
        FixupVolume v = withTwo();
        Check.directory(v, 1, "g");
        Check.directory(v, 4, "h");
        Check.file(v, 2, "f");
        int[][] pairs = {{0, 1}, {0, 0}, {1, 1}, {1, 4}, {1, 5}, {4, 5}, {3, 1}, {1, 0}, {3, 2}, {3, 3}, {3, 6},
                {7, 0}, {11, 0}, {12, 0}, {-1, 0}, {3, 7}, {3, -1}, {3, 12},
                {Integer.MIN_VALUE, 0}, {3, Integer.MAX_VALUE}};
        for (int[] p : pairs) {
            Check.call("move(" + p[0] + ", " + p[1] + ")", () -> Check.moved(v, p[0], p[1]), Check.ARGUMENT);
        }
        Check.same("nothing was written", v.record(3, 2), 1);
        Check.list("the root", v, 0, 1, 2);
    }

    private static void goesOffAtEachSector() {
        int[] writes = {0, 1, 2, 2, 1, 2};
        int[] parent = {1, FixupVolume.NONE, 2, 2, 2, 0};
        for (int n = 1; n <= 6; n++) {
            FixupVolume v = withTwo();
            Check.cutOff(v, n, () -> Check.moved(v, 3, 2));
            Check.call("off", () -> Check.moved(v, 0, 0), Check.STATE);
            Check.same("mount(), cut " + n, v.mount(), writes[n - 1]);
            Check.same("its parent, cut " + n, v.record(3, 1), parent[n - 1]);
            Check.same("the one before, cut " + n, v.record(1, 0), n == 4 ? FixupVolume.NONE : 2);
            Check.same("the new one, cut " + n, v.record(2, 0), n == 6 ? FixupVolume.NONE : 2);
        }
        FixupVolume v = withTwo();
        v.fail(7);
        Check.call("six sectors alone", () -> Check.moved(v, 3, 2), 0);
        Check.yes("on()", v.on());
    }

    private static void farBelowItself() {
        FixupVolume v = new FixupVolume();
        for (int r = 1; r < 12; r++) {
            Check.directory(v, r - 1, "d" + r);
        }
        for (int d = 1; d < 12; d++) {
            int below = d;
            Check.call("into " + d, () -> Check.moved(v, 1, below), Check.ARGUMENT);
        }
        Check.call("the deepest one into the root", () -> Check.moved(v, 11, 0), 0);
        Check.call("what it was below into it", () -> Check.moved(v, 1, 11), 0);
        Check.call("now it is above", () -> Check.moved(v, 11, 10), Check.ARGUMENT);
        Check.list("the root", v, 0, 11);
        Check.list("the one that is above now", v, 11, 1);
        Check.list("the deepest one", v, 10);
        Check.same("all lead to the root", v.mount(), 0);
    }

    /** The directory has the name, by itself or by another record. */
    private static void nameOfAnotherThere() {
        FixupVolume v = withTwo();
        Check.directory(v, 2, "f");
        Check.call("a directory of that name", () -> Check.moved(v, 3, 2), Check.ARGUMENT);
        Check.call("itself", () -> Check.moved(v, 3, 1), Check.ARGUMENT);
        Check.call("its own name isn't in it", () -> Check.moved(v, 3, 4), 0);
        Check.same("parent", v.record(3, 1), 4);
        Check.call("nor in what is above", () -> Check.moved(v, 4, 1), 0);
        Check.list("the directory", v, 1, 4);
    }
}
