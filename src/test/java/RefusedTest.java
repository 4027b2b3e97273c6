/**
 * Calls that are refused change nothing: no byte, no answer, no sector of the cut that was told. Only the
 * draft is empty behind create. (FailTest and the tests of the promises say which calls are refused.)
 */
public final class RefusedTest {
    private static final int PART = 400;

    private interface Use {
        void on(FixupVolume v);
    }

    public static void main(String[] args) {
        arguments();
        full();
        off();
        cutStaysTold();
        Check.end();
    }

    /** Records: 1 a directory with file 2 and directory 3, 4 a file inside, 5 one outside, with a hole. */
    private static void prepare(FixupVolume v) {
        Check.directory(v, 0, "d");
        Check.file(v, 1, "f");
        Check.directory(v, 1, "e");
        Check.file(v, 0, "f");
        Check.file(v, 0, "g");
        v.write(4, 0, 20, 1);
        v.write(5, 0, 60, 50);
        v.write(5, 200, 9, 90);
    }

    private static void arguments() {
        refused("create in a file", Check.ARGUMENT, v -> { }, v -> Check.file(v, 4, "x"));
        refused("create in a free record", Check.ARGUMENT, v -> { }, v -> Check.file(v, 6, "x"));
        refused("create with the empty draft", Check.ARGUMENT, v -> { }, v -> v.create(0, true));
        refused("create of a name that is there", Check.ARGUMENT, v -> { }, v -> Check.directory(v, 0, "f"));
        refused("write in a directory", Check.ARGUMENT, v -> { }, v -> v.write(1, 0, 1, 1));
        refused("write inside, too far", Check.ARGUMENT, v -> { }, v -> v.write(4, 999, 2, 1));
        refused("write outside, too much", Check.ARGUMENT, v -> { }, v -> v.write(5, 10, 61, 1));
        refused("cut to more", Check.ARGUMENT, v -> { }, v -> v.cut(5, 210));
        refused("cut to less than nothing", Check.ARGUMENT, v -> { }, v -> v.cut(5, -1));
        refused("cut of a directory", Check.ARGUMENT, v -> { }, v -> v.cut(3, 0));
        refused("remove of record 0", Check.ARGUMENT, v -> { }, v -> v.remove(0));
        refused("remove of a list that isn't empty", Check.ARGUMENT, v -> { }, v -> v.remove(1));
        refused("remove of a free record", Check.ARGUMENT, v -> { }, v -> v.remove(6));
        refused("move of record 0", Check.ARGUMENT, v -> { }, v -> Check.moved(v, 0, 3));
        refused("move into itself", Check.ARGUMENT, v -> { }, v -> Check.moved(v, 1, 1));
        refused("move below itself", Check.ARGUMENT, v -> { }, v -> Check.moved(v, 1, 3));
        refused("move where its name is", Check.ARGUMENT, v -> { }, v -> Check.moved(v, 4, 1));
        refused("move to where it is", Check.ARGUMENT, v -> { }, v -> Check.moved(v, 4, 0));
        refused("move into a file", Check.ARGUMENT, v -> { }, v -> Check.moved(v, 5, 4));
        refused("fail(21)", 0, v -> { }, v -> v.fail(21) ? 1 : 0);
        refused("fail(-1)", 0, v -> { }, v -> v.fail(-1) ? 1 : 0);
    }

    private static void full() {
        refused("create with no record free", Check.UNSUPPORTED, RefusedTest::fillRecords, v -> Check.file(v, 0, "x"));
        refused("write outside with too few clusters", Check.UNSUPPORTED, RefusedTest::fillClusters,
                v -> v.write(5, 200, 60, 7));
        refused("write from inside to outside with too few clusters", Check.UNSUPPORTED, RefusedTest::fillClusters,
                v -> v.write(4, 5, 60, 7));
        refused("write with too many runs", Check.UNSUPPORTED, RefusedTest::fillRuns, v -> v.write(5, 810, 10, 7));
    }

    private static void fillRecords(FixupVolume v) {
        for (int r = 6; r < 12; r++) {
            Check.file(v, 0, "x" + r);
        }
    }

    /** One cluster is left: too few for either file. */
    private static void fillClusters(FixupVolume v) {
        Check.file(v, 0, "x");
        Check.file(v, 0, "y");
        for (int at = 0; at < 1000; at += 50) {
            v.write(6, at, 50, at);
        }
        for (int at = 0; at < 160; at += 40) {
            v.write(7, at, 40, at);
        }
        Check.same("left", v.free(), 1);
    }

    /** With the two that it has these are nine runs, whose bytes and those of the holes between them are 43. */
    private static void fillRuns(FixupVolume v) {
        for (int k = 0; k < 7; k++) {
            v.write(5, 256 + 64 * k, 10, k);
        }
        Check.same("runs", v.record(5, 6), 17);
        Check.same("attributes", v.record(5, 3), 51);
    }

    private static void off() {
        Use goOff = v -> Check.cutOff(v, 1, () -> v.write(4, 0, 1, 1));
        refused("create while off", Check.STATE, goOff, v -> Check.file(v, 0, "x"));
        refused("write while off", Check.STATE, goOff, v -> v.write(5, 0, 60, 1));
        refused("cut while off", Check.STATE, goOff, v -> v.cut(5, 3));
        refused("remove while off", Check.STATE, goOff, v -> v.remove(5));
        refused("move while off", Check.STATE, goOff, v -> Check.moved(v, 5, 1));
    }

    private interface Question {
        int of(FixupVolume v);
    }

    private static FixupVolume volume(Use more) {
        FixupVolume v = new FixupVolume();
        prepare(v);
        more.on(v);
        return v;
    }

    /** One of two volumes gets the call; in parts, so that no object gets more than 512 calls. */
    private static void refused(String what, int due, Use more, Question call) {
        for (int from = 0; from < 2048; from += PART) {
            FixupVolume v = volume(more);
            FixupVolume w = volume(more);
            Check.call(what, () -> call.of(v), due);
            for (int k = from; k < Math.min(from + PART, 2048); k++) {
                Check.same(what + ": at(" + k + ")", v.at(k), w.at(k));
            }
        }
        FixupVolume v = volume(more);
        FixupVolume w = volume(more);
        Check.call(what, () -> call.of(v), due);
        sameAnswers(what, v, w);
        Check.same(what + ": mount()", v.mount(), w.mount());
        sameAnswers(what + ", mounted", v, w);
    }

    private static void sameAnswers(String what, FixupVolume v, FixupVolume w) {
        Check.same(what + ": on()", v.on() ? 1 : 0, w.on() ? 1 : 0);
        Check.same(what + ": free()", v.free(), w.free());
        for (int r = 0; r < 8; r++) {
            for (int k = 0; k <= 6; k++) {
                Check.same(what + ": record(" + r + ", " + k + ")", v.record(r, k), w.record(r, k));
                Check.same(what + ": read(" + r + ", " + k + ")", v.read(r, k), w.read(r, k));
                Check.same(what + ": run(" + r + ", " + k + ", 0)", v.run(r, k, 0), w.run(r, k, 0));
            }
        }
    }

    private static void cutStaysTold() {
        FixupVolume v = volume(RefusedTest::fillClusters);
        v.fail(1);
        Check.call("an argument", () -> v.write(5, -1, 1, 1), Check.ARGUMENT);
        Check.call("too few clusters", () -> v.write(5, 200, 60, 7), Check.UNSUPPORTED);
        Check.yes("on()", v.on());
        Check.call("a file that is there", () -> v.write(4, 0, 1, 1), Check.STATE);
        FixupVolume w = volume(RefusedTest::fillRecords);
        w.fail(1);
        Check.call("no record is free", () -> Check.file(w, 0, "z"), Check.UNSUPPORTED);
        Check.call("record 0", () -> w.remove(0), Check.ARGUMENT);
        Check.call("to where it is", () -> Check.moved(w, 4, 0), Check.ARGUMENT);
        Check.yes("on()", w.on());
        Check.call("a file that is there", () -> w.cut(4, 0), Check.STATE);
    }
}
