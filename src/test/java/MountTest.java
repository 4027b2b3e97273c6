/** Promise 9: mounting puts right what was cut off. */
public final class MountTest {
    public static void main(String[] args) {
        nothingToDo();
        tornRootIsWrittenAnew();
        strayOnesComeToTheRoot();
        byRisingNumbers();
        sameNamesByNumbers();
        tornOnesKeepTheirBytes();
        clustersOfTornOnes();
        goesOffItself();
        tornRootWithNothingInIt();
        tornOnesAreNotInUse();
        deepOnesStay();
        childrenOfATornOneByRisingNumbers();
        cutAtEachSector();
        clustersOfRunsAlone();
        listsByRisingNumbers();
        straysByRisingNumbersBeforeLists();
        rootBeforeStrays();
        Check.end();
    }

    private static void nothingToDo() {
        FixupVolume v = new FixupVolume();
        Check.directory(v, 0, "d");
        Check.file(v, 1, "f");
        v.write(2, 0, 50, 1);
        v.write(2, 300, 20, 1);
        Check.same("mount() while on", v.mount(), 0);
        Check.list("the root", v, 0, 1);
        Check.list("the directory", v, 1, 2);
        Check.same("size", v.record(2, 4), 320);
        Check.same("runs", v.record(2, 6), 3);
        Check.same("number", v.record(2, 2), 3);
        Check.same("free()", v.free(), 74);
        Check.call("and on it goes", () -> v.write(2, 320, 16, 1), 336);
        Check.same("with the next cluster", v.run(2, 2, 0), 3);
    }

    /** It is written twice then: as at first, and with its list. */
    private static void tornRootIsWrittenAnew() {
        FixupVolume v = new FixupVolume();
        Check.file(v, 0, "b");
        Check.cutOff(v, 4, () -> Check.directory(v, 0, "a"));
        Check.same("its number", v.at(2), 3);
        Check.same("its second sector", v.at(62), 2);
        Check.same("mount()", v.mount(), 2);
        Check.list("the root", v, 0, 2, 1);
        Check.same("its number", v.record(0, 2), 5);
        Check.same("its parent", v.record(0, 1), 0);
        FixupVolume w = new FixupVolume();
        Check.file(w, 0, "b");
        Check.cutOff(w, 2, () -> w.remove(1));
        Check.same("what was to go is there again", w.mount(), 2);
        Check.list("the root", w, 0, 1);
        FixupVolume x = new FixupVolume();
        Check.cutOff(x, 4, () -> Check.file(x, 0, "a"));
        Check.cutOff(x, 2, () -> x.mount());
        Check.same("torn again", x.mount(), 2);
        Check.same("each has its number", x.record(0, 2), 5);
    }

    private static void strayOnesComeToTheRoot() {
        FixupVolume v = new FixupVolume();
        Check.directory(v, 0, "d");
        Check.file(v, 1, "g");
        Check.directory(v, 1, "e");
        Check.file(v, 3, "h");
        Check.cutOff(v, 4, () -> Check.file(v, 1, "f"));
        Check.same("mount()", v.mount(), 4);
        Check.same("the directory is gone", v.record(1, 0), FixupVolume.NONE);
        Check.list("the root", v, 0, 3, 5, 2);
        Check.same("a file's parent", v.record(2, 1), 0);
        Check.same("a directory's parent", v.record(3, 1), 0);
        Check.same("what that has stays", v.record(4, 1), 3);
        Check.list("and its list", v, 3, 4);
        Check.same("which wasn't written", v.record(4, 2), 1);
    }

    /** Record 3 has record 4 for its parent, which has the torn one: 3 is looked at while 4 still leads nowhere. */
    private static void byRisingNumbers() {
        FixupVolume v = new FixupVolume();
        Check.directory(v, 0, "d");
        Check.file(v, 0, "x");
        Check.file(v, 0, "y");
        Check.directory(v, 1, "e");
        v.move(3, 4);
        v.move(2, 4);
        Check.file(v, 4, "z");
        Check.cutOff(v, 4, () -> Check.file(v, 1, "f"));
        Check.same("mount()", v.mount(), 6);
        Check.same("the lower one came to the root", v.record(3, 1), 0);
        Check.same("and so did this one", v.record(2, 1), 0);
        Check.same("their parent too", v.record(4, 1), 0);
        Check.same("the higher one stays", v.record(5, 1), 4);
        Check.list("the root", v, 0, 4, 6, 2, 3);
        Check.list("the directory", v, 4, 5);
        Check.same("the directory was written twice", v.record(4, 2), 6);
    }

    private static void sameNamesByNumbers() {
        FixupVolume v = new FixupVolume();
        Check.directory(v, 0, "d");
        Check.file(v, 1, "a");
        Check.file(v, 0, "a");
        Check.file(v, 0, "ab");
        Check.cutOff(v, 4, () -> Check.file(v, 1, "a0"));
        v.mount();
        Check.list("the root", v, 0, 2, 3, 5, 4);
        Check.same("find", Check.found(v, 0, "a"), 2);
        Check.call("the name is there", () -> Check.file(v, 0, "a"), Check.ARGUMENT);
        Check.call("remove one", () -> v.remove(2), 0);
        Check.list("the root", v, 0, 3, 5, 4);
        Check.same("mount()", v.mount(), 0);
    }

    private static void tornOnesKeepTheirBytes() {
        FixupVolume v = new FixupVolume();
        Check.file(v, 0, "f");
        v.write(1, 0, 40, 7);
        Check.cutOff(v, 2, () -> v.write(1, 0, 40, 90));
        Check.same("mount()", v.mount(), 1);
        Check.bytes("its head", v, 64, 1, 0, 3, 0, 105, 106, 0, 0, 45);
        Check.bytes("its sector 1", v, 96, 24, 25);
        Check.bytes("its end", v, 126, 2, 0);
        Check.same("it counts as free", v.record(1, 0), FixupVolume.NONE);
        Check.list("the root", v, 0);
        Check.call("it is given", () -> Check.directory(v, 0, "g"), 1);
        Check.same("with its next number", v.record(1, 2), 4);
        Check.bytes("and is written whole", v, 126, 4, 0);
        Check.bytes("with 0 behind its attributes", v, 64 + 15, 0, 0, 0);
    }

    private static void clustersOfTornOnes() {
        FixupVolume v = new FixupVolume();
        Check.file(v, 0, "f");
        Check.file(v, 0, "g");
        v.write(1, 0, 60, 1);
        v.write(2, 0, 60, 100);
        Check.cutOff(v, 2, () -> v.cut(1, 59));
        v.mount();
        Check.same("free()", v.free(), 76);
        Check.same("the other file", v.read(2, 59), 159);
        Check.file(v, 0, "h");
        Check.call("they are given", () -> v.write(1, 0, 60, 50), 60);
        Check.same("the lowest first", v.run(1, 0, 1), 48);
        Check.same("the other file stays", v.read(2, 0), 100);
    }

    private static void goesOffItself() {
        FixupVolume v = new FixupVolume();
        Check.file(v, 0, "f");
        Check.cutOff(v, 3, () -> Check.file(v, 0, "g"));
        Check.yes("fail(1) while off", v.fail(1));
        Check.call("mount()", () -> v.mount(), Check.STATE);
        Check.no("on()", v.on());
        Check.same("record", v.record(0, 0), FixupVolume.NONE);
        Check.same("mount() again", v.mount(), 1);
        Check.yes("on()", v.on());
        Check.list("the root", v, 0, 1, 2);
        FixupVolume w = new FixupVolume();
        Check.file(w, 0, "f");
        Check.cutOff(w, 3, () -> Check.file(w, 0, "g"));
        w.fail(3);
        Check.same("two sectors alone", w.mount(), 1);
        Check.same("mount() while on", w.mount(), 0);
        Check.call("the third", () -> w.write(1, 0, 1, 1), Check.STATE);
    }

    /** Its list is empty as at first, so it is written once alone. */
    private static void tornRootWithNothingInIt() {
        FixupVolume v = new FixupVolume();
        Check.file(v, 0, "f");
        Check.cutOff(v, 2, () -> v.write(1, 0, 1, 1));
        Check.cutOff(v, 2, () -> v.mount());
        Check.same("sector 0's number", v.at(30), 3);
        Check.same("sector 1's number", v.at(62), 2);
        Check.same("mount()", v.mount(), 1);
        Check.list("the root", v, 0);
        Check.bytes("as at first, with its next number", v, 0, 2, 0, 4, 0, 0, 0, 0, 0, 2, 0, 4, 2, 0, 0);
        Check.same("sector 0's number", v.at(30), 4);
        Check.same("sector 1's number", v.at(62), 4);
        Check.same("record", v.record(0, 2), 4);
        Check.same("mount() again", v.mount(), 0);
    }

    private static void tornOnesAreNotInUse() {
        FixupVolume v = new FixupVolume();
        Check.directory(v, 0, "d");
        Check.file(v, 0, "f");
        v.write(2, 0, 60, 1);
        Check.cutOff(v, 2, () -> v.write(2, 0, 60, 2));
        v.mount();
        Check.cutOff(v, 4, () -> Check.file(v, 1, "g"));
        v.mount();
        Check.list("the root", v, 0, 2);
        Check.cutOff(v, 2, () -> v.cut(2, 0));
        v.mount();
        for (int r = 1; r <= 2; r++) {
            int torn = r;
            Check.same("state byte of " + r, v.at(64 * r), 3 - r);
            Check.same("record", v.record(r, 0), FixupVolume.NONE);
            Check.same("read", v.read(r, 0), FixupVolume.NONE);
            Check.same("run", v.run(r, 0, 0), FixupVolume.NONE);
            Check.same("find", Check.found(v, r, "g"), FixupVolume.NONE);
            Check.call("create", () -> Check.file(v, torn, "h"), Check.ARGUMENT);
            Check.call("write", () -> v.write(torn, 0, 1, 1), Check.ARGUMENT);
            Check.call("cut", () -> v.cut(torn, 0), Check.ARGUMENT);
            Check.call("remove", () -> v.remove(torn), Check.ARGUMENT);
            Check.call("move", () -> Check.moved(v, torn, 0), Check.ARGUMENT);
        }
        Check.same("free()", v.free(), 80);
    }

    private static void deepOnesStay() {
        FixupVolume v = new FixupVolume();
        for (int r = 1; r < 12; r++) {
            Check.directory(v, r - 1, "d");
        }
        Check.cutOff(v, 1, () -> v.remove(11));
        Check.same("mount()", v.mount(), 0);
        for (int r = 1; r < 12; r++) {
            Check.same("parent of " + r, v.record(r, 1), r - 1);
        }
    }

    /** A chain whose first one is torn: its child comes to the root, and then all below that lead there. */
    private static void childrenOfATornOneByRisingNumbers() {
        FixupVolume v = new FixupVolume();
        for (int r = 1; r < 9; r++) {
            Check.directory(v, r - 1, "d");
        }
        Check.cutOff(v, 4, () -> Check.file(v, 1, "f"));
        Check.same("mount()", v.mount(), 3);
        Check.list("the root, by names", v, 0, 2, 9);
        Check.same("the torn one's child", v.record(2, 1), 0);
        Check.same("the other child", v.record(9, 1), 0);
        for (int r = 3; r < 9; r++) {
            Check.same("parent of " + r, v.record(r, 1), r - 1);
            Check.same("number of " + r, v.record(r, 2), r < 8 ? 2 : 1);
        }
    }

    /** A file whose directory was torn: it is written, then the root; each sector of both can be cut. */
    private static void cutAtEachSector() {
        int[] writesBehindIt = {2, 1, 1, 2};
        int[] length = {1, 0, 1, 1};
        for (int n = 1; n <= 4; n++) {
            FixupVolume v = new FixupVolume();
            Check.directory(v, 0, "d");
            Check.cutOff(v, 4, () -> Check.file(v, 1, "f"));
            Check.cutOff(v, n, () -> v.mount());
            Check.same("mount(), cut " + n, v.mount(), writesBehindIt[n - 1]);
            Check.same("the root's list, cut " + n, v.record(0, 4), length[n - 1]);
            Check.same("the file, cut " + n, v.record(2, 1), n == 2 ? FixupVolume.NONE : 0);
        }
        FixupVolume v = new FixupVolume();
        Check.directory(v, 0, "d");
        Check.cutOff(v, 4, () -> Check.file(v, 1, "f"));
        v.fail(5);
        Check.same("four sectors alone", v.mount(), 2);
        Check.yes("on()", v.on());
    }

    private static void clustersOfRunsAlone() {
        FixupVolume v = new FixupVolume();
        Check.file(v, 0, "f");
        v.write(1, 100, 10, 1);
        v.mount();
        Check.same("a hole takes none", v.free(), 79);
        Check.cutOff(v, 1, () -> v.write(1, 0, 60, 1));
        v.mount();
        Check.same("a write that went off takes none", v.free(), 79);
        Check.cutOff(v, 1, () -> v.remove(1));
        v.mount();
        Check.same("a remove that went off sets none free", v.free(), 79);
    }

    /** A move that went off behind its first record: both lists are wrong, and the lower one is written first. */
    private static void listsByRisingNumbers() {
        for (int from = 1; from <= 2; from++) {
            FixupVolume v = new FixupVolume();
            Check.directory(v, 0, "z");
            Check.directory(v, 0, "a");
            Check.file(v, from, "f");
            int to = 3 - from;
            Check.cutOff(v, 3, () -> Check.moved(v, 3, to));
            int[] before = {v.at(64 + 2), v.at(128 + 2)};
            Check.cutOff(v, 3, () -> v.mount());
            Check.same("record 1 was written", v.at(64 + 2), before[0] + 1);
            Check.same("record 2 wasn't", v.at(128 + 2), before[1]);
            Check.same("mount()", v.mount(), 1);
            Check.list("where it was", v, from);
            Check.list("where it is", v, to, 3);
        }
    }

    /** Directory 1 is torn: records 2 and 4 come to the root, whose list is written behind them. */
    private static void straysByRisingNumbersBeforeLists() {
        int[] numbers = {1, 2, 2, 2, 2, 2};
        int[] numbersOf4 = {1, 1, 1, 2, 2, 2};
        int[] numbersOfRoot = {3, 3, 3, 3, 3, 4};
        for (int n = 1; n <= 6; n++) {
            FixupVolume v = new FixupVolume();
            Check.directory(v, 0, "d");
            Check.file(v, 1, "y");
            Check.file(v, 0, "x");
            Check.cutOff(v, 4, () -> Check.file(v, 1, "a"));
            Check.cutOff(v, n, () -> v.mount());
            Check.same("number of 2, cut " + n, v.at(128 + 2), numbers[n - 1]);
            Check.same("number of 4, cut " + n, v.at(256 + 2), numbersOf4[n - 1]);
            Check.same("number of the root, cut " + n, v.at(2), numbersOfRoot[n - 1]);
            Check.same("number of 3, cut " + n, v.at(192 + 2), 1);
        }
    }

    /** With the root torn nothing leads to it, until it is written as it was at first. */
    private static void rootBeforeStrays() {
        FixupVolume v = new FixupVolume();
        Check.directory(v, 0, "d");
        Check.file(v, 1, "f");
        Check.cutOff(v, 4, () -> Check.file(v, 0, "e"));
        Check.same("mount()", v.mount(), 2);
        Check.same("its directory isn't written", v.record(1, 2), 2);
        Check.same("nor what that has", v.record(2, 2), 1);
        Check.same("whose parent stays", v.record(2, 1), 1);
        Check.list("the root", v, 0, 1, 3);
        Check.list("its directory", v, 1, 2);
    }
}
