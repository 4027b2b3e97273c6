/** Promise 3: new files and directories. */
public final class CreateTest {
    public static void main(String[] args) {
        recordsByRisingNumbers();
        listByNames();
        bytesOfBoth();
        wrongArguments();
        noRecordFree();
        draftIsEmptyInAnyCase();
        goesOffAtEachSector();
        whileOffComesFirst();
        shortestAndLongestName();
        sameNameElsewhere();
        deepestDirectory();
        Check.end();
    }

    private static void recordsByRisingNumbers() {
        FixupVolume v = new FixupVolume();
        Check.same("d", Check.directory(v, 0, "d"), 1);
        Check.same("a in d", Check.file(v, 1, "a"), 2);
        Check.same("a in the root", Check.file(v, 0, "a"), 3);
        Check.same("parent of 2", v.record(2, 1), 1);
        Check.same("parent of 3", v.record(3, 1), 0);
        Check.same("number of 3", v.record(3, 2), 1);
        Check.same("number of the root", v.record(0, 2), 3);
        v.remove(2);
        Check.same("the lowest free one", Check.file(v, 0, "z"), 2);
        Check.same("its number goes on", v.record(2, 2), 3);
    }

    private static void listByNames() {
        FixupVolume v = new FixupVolume();
        Check.file(v, 0, "b");
        Check.file(v, 0, "ab");
        Check.file(v, 0, "a");
        Check.file(v, 0, "a0");
        Check.file(v, 0, "9z");
        Check.file(v, 0, "abc");
        Check.file(v, 0, "zzzzzzzz");
        Check.list("the root", v, 0, 5, 3, 4, 2, 6, 1, 7);
    }

    private static void bytesOfBoth() {
        FixupVolume v = new FixupVolume();
        Check.directory(v, 0, "dir");
        Check.file(v, 1, "f1");
        Check.bytes("the file", v, 128, 1, 1, 1, 0, 0, 0, 0, 0, 6, 0, 1, 4, 'f', '1', 2, 2, 0, 0);
        Check.bytes("its sectors' ends", v, 158, 1, 0, 0, 0);
        Check.bytes("its sectors' ends", v, 190, 1, 0);
        Check.bytes("the directory", v, 64, 2, 0, 2, 0, 0, 0, 0, 0, 8, 0, 1, 5, 'd', 'i', 'r', 4, 3, 2, 0);
        Check.bytes("its sectors' ends", v, 94, 2, 0, 0, 0);
        Check.bytes("its sectors' ends", v, 126, 2, 0);
    }

    private static void wrongArguments() {
        FixupVolume v = new FixupVolume();
        int f = Check.file(v, 0, "f");
        int[] none = {-1, 2, 11, 12, f, Integer.MIN_VALUE, Integer.MAX_VALUE};
        for (int d : none) {
            Check.call("in directory " + d, () -> Check.file(v, d, "g"), Check.ARGUMENT);
        }
        Check.call("an empty draft", () -> v.create(0, false), Check.ARGUMENT);
        Check.call("a name that is there", () -> Check.directory(v, 0, "f"), Check.ARGUMENT);
        Check.same("number of the root", v.record(0, 2), 2);
        Check.same("record 2 was not written", v.at(128 + 2), 0);
    }

    private static void noRecordFree() {
        FixupVolume v = new FixupVolume();
        for (int r = 1; r < 12; r++) {
            Check.same("record " + r, Check.file(v, 0, "f" + r), r);
        }
        Check.call("the twelfth", () -> Check.file(v, 0, "g"), Check.UNSUPPORTED);
        Check.call("a name that is there comes first", () -> Check.file(v, 0, "f1"), Check.ARGUMENT);
        Check.call("no such directory comes first", () -> Check.file(v, 1, "g"), Check.ARGUMENT);
        Check.call("an empty draft comes first", () -> v.create(0, true), Check.ARGUMENT);
        Check.list("the root", v, 0, 1, 10, 11, 2, 3, 4, 5, 6, 7, 8, 9);
    }

    private static void draftIsEmptyInAnyCase() {
        FixupVolume v = new FixupVolume();
        Check.same("a new one", Check.file(v, 0, "a"), 1);
        Check.emptyDraft("a new one", v);
        Check.call("no directory", () -> Check.file(v, 5, "left"), Check.ARGUMENT);
        Check.emptyDraft("no directory", v);
        Check.call("a name that is there", () -> Check.file(v, 0, "a"), Check.ARGUMENT);
        Check.emptyDraft("a name that is there", v);
        Check.cutOff(v, 1, () -> Check.file(v, 0, "b"));
        Check.emptyDraft("goes off", v);
        Check.call("while off", () -> Check.file(v, 0, "b"), Check.STATE);
        Check.emptyDraft("while off", v);
        v.mount();
        for (int r = 2; r < 12; r++) {
            Check.file(v, 0, "x" + r);
        }
        Check.call("no record is free", () -> Check.file(v, 0, "left"), Check.UNSUPPORTED);
        Check.emptyDraft("no record is free", v);
    }

    private static void goesOffAtEachSector() {
        int[] stateByte = {0, 1, 1, 1};
        int[] lastWord = {0, 0, 1, 1};
        int[] rootNumber = {1, 1, 1, 2};
        for (int n = 1; n <= 4; n++) {
            FixupVolume v = new FixupVolume();
            Check.cutOff(v, n, () -> Check.file(v, 0, "a"));
            Check.same("state byte, cut " + n, v.at(64), stateByte[n - 1]);
            Check.same("sector 1's last word, cut " + n, v.at(64 + 62), lastWord[n - 1]);
            Check.same("the root's number, cut " + n, v.at(2), rootNumber[n - 1]);
            Check.same("the root's sector 1, cut " + n, v.at(62), 1);
        }
        FixupVolume v = new FixupVolume();
        v.fail(5);
        Check.call("four sectors alone", () -> Check.file(v, 0, "a"), 1);
    }

    private static void whileOffComesFirst() {
        FixupVolume v = new FixupVolume();
        Check.cutOff(v, 1, () -> Check.file(v, 0, "a"));
        Check.call("no such directory, off", () -> Check.file(v, -1, "a"), Check.STATE);
        Check.call("an empty draft, off", () -> v.create(0, true), Check.STATE);
        FixupVolume w = new FixupVolume();
        for (int r = 1; r < 12; r++) {
            Check.file(w, 0, "f" + r);
        }
        Check.cutOff(w, 1, () -> w.remove(1));
        Check.call("no record free, off", () -> Check.file(w, 0, "a"), Check.STATE);
    }

    private static void shortestAndLongestName() {
        FixupVolume v = new FixupVolume();
        Check.call("no character", () -> v.create(0, true), Check.ARGUMENT);
        Check.call("one character", () -> Check.file(v, 0, "0"), 1);
        Check.call("eight characters", () -> Check.directory(v, 0, "zzzzzzz9"), 2);
        Check.call("the first eight of nine", () -> Check.file(v, 0, "zzzzzzz9a"), Check.ARGUMENT);
        Check.bytes("one character", v, 64 + 8, 5, 0, 1, 3, '0', 2, 2, 0);
        Check.bytes("eight", v, 128 + 8, 12, 0, 1, 10, 'z', 'z', 'z', 'z', 'z', 'z', 'z', '9', 4, 2, 0);
    }

    private static void sameNameElsewhere() {
        FixupVolume v = new FixupVolume();
        Check.directory(v, 0, "a");
        Check.call("in the directory of that name", () -> Check.directory(v, 1, "a"), 2);
        Check.call("once more below", () -> Check.file(v, 2, "a"), 3);
        Check.call("a directory where a file has it", () -> Check.directory(v, 2, "a"), Check.ARGUMENT);
        Check.call("a file where a directory has it", () -> Check.file(v, 0, "a"), Check.ARGUMENT);
        v.remove(3);
        Check.call("where none has it any more", () -> Check.directory(v, 2, "a"), 3);
    }

    private static void deepestDirectory() {
        FixupVolume v = new FixupVolume();
        for (int r = 1; r < 12; r++) {
            Check.same("directory " + r, Check.directory(v, r - 1, "d"), r);
        }
        Check.same("the deepest one's parent", v.record(11, 1), 10);
        Check.call("no record is free for one below it", () -> Check.file(v, 11, "f"), Check.UNSUPPORTED);
        Check.same("all lead to the root", v.mount(), 0);
        Check.same("the deepest one's parent", v.record(11, 1), 10);
    }
}
