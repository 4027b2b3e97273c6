/** Promise 11: the record that has the draft's name. */
public final class FindTest {
    public static void main(String[] args) {
        FixupVolume v = new FixupVolume();
        Check.directory(v, 0, "d");
        Check.file(v, 1, "abcdefgh");
        Check.file(v, 1, "abcdefg");
        Check.file(v, 0, "x");
        Check.same("d in the root", Check.found(v, 0, "d"), 1);
        Check.same("x in the root", Check.found(v, 0, "x"), 4);
        Check.same("x in d", Check.found(v, 1, "x"), FixupVolume.NONE);
        Check.same("eight characters", Check.found(v, 1, "abcdefgh"), 2);
        Check.same("seven of them", Check.found(v, 1, "abcdefg"), 3);
        Check.same("six of them", Check.found(v, 1, "abcdef"), FixupVolume.NONE);
        Check.same("the empty draft", v.find(0), FixupVolume.NONE);
        noSuchDirectory(v);
        draftIsEmptyBehindIt(v);
        namesThatGo();
        Check.end();
    }

    private static void noSuchDirectory(FixupVolume v) {
        int[] none = {2, 4, 5, 11, 12, -1, Integer.MIN_VALUE, Integer.MAX_VALUE};
        for (int d : none) {
            Check.same("in " + d, Check.found(v, d, "x"), FixupVolume.NONE);
        }
    }

    private static void draftIsEmptyBehindIt(FixupVolume v) {
        Check.same("x", Check.found(v, 0, "x"), 4);
        Check.emptyDraft("found", v);
        Check.same("y", Check.found(v, 0, "y"), FixupVolume.NONE);
        Check.emptyDraft("not found", v);
        Check.same("in a file", Check.found(v, 4, "y"), FixupVolume.NONE);
        Check.emptyDraft("no such directory", v);
        Check.cutOff(v, 1, () -> v.write(4, 0, 1, 1));
        Check.same("while off", Check.found(v, 0, "x"), FixupVolume.NONE);
        Check.emptyDraft("while off", v);
        Check.same("no such directory while off", Check.found(v, 99, "x"), FixupVolume.NONE);
        Check.emptyDraft("no such directory while off", v);
        v.mount();
        Check.same("x again", Check.found(v, 0, "x"), 4);
    }

    private static void namesThatGo() {
        FixupVolume v = new FixupVolume();
        Check.directory(v, 0, "d");
        Check.same("in an empty list", Check.found(v, 1, "d"), FixupVolume.NONE);
        Check.file(v, 0, "f");
        v.move(2, 1);
        Check.same("moved, where it was", Check.found(v, 0, "f"), FixupVolume.NONE);
        Check.same("moved, where it is", Check.found(v, 1, "f"), 2);
        v.remove(2);
        Check.same("removed", Check.found(v, 1, "f"), FixupVolume.NONE);
        Check.same("the first eight of nine", Check.file(v, 1, "abcdefgh"), 2);
        Check.same("are found", Check.found(v, 1, "abcdefghi"), 2);
    }
}
