/** Promise 12: what is told of a record. */
public final class RecordTest {
    public static void main(String[] args) {
        FixupVolume v = new FixupVolume();
        Check.directory(v, 0, "dir");
        Check.file(v, 1, "in");
        Check.file(v, 1, "out");
        v.write(2, 0, 5, 1);
        v.write(3, 0, 20, 1);
        v.write(3, 100, 10, 1);
        told(v, 0, 2, 0, 2, 3, 1, 4, 0);
        told(v, 1, 2, 0, 3, 5 + 4, 2, 4, 0);
        told(v, 2, 1, 1, 2, 4 + 7, 5, 2, 0);
        told(v, 3, 1, 1, 3, 5 + 5 + 8, 110, 3, 3);
        v.mount();
        told(v, 3, 1, 1, 3, 5 + 5 + 8, 110, 3, 3);
        v.remove(2);
        int[] none = {2, 4, 11, 12, -1, Integer.MIN_VALUE, Integer.MAX_VALUE};
        for (int r : none) {
            told(v, r, -1, -1, -1, -1, -1, -1, -1);
        }
        Check.end();
    }

    private static void told(FixupVolume v, int r, int... due) {
        for (int what = 0; what <= 6; what++) {
            Check.same("record(" + r + ", " + what + ")", v.record(r, what), due[what]);
        }
        int[] nothing = {-1, 7, 8, Integer.MIN_VALUE, Integer.MAX_VALUE};
        for (int what : nothing) {
            Check.same("record(" + r + ", " + what + ")", v.record(r, what), FixupVolume.NONE);
        }
    }
}
