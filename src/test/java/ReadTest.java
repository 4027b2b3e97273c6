/** Promise 13: bytes of files, entries of lists. */
public final class ReadTest {
    public static void main(String[] args) {
        FixupVolume v = new FixupVolume();
        Check.file(v, 0, "b");
        Check.file(v, 0, "a");
        Check.directory(v, 0, "d");
        Check.same("a file with no bytes", v.read(1, 0), FixupVolume.NONE);
        v.write(1, 2, 10, 250);
        int[] due = {0, 0, 250, 251, 252, 253, 254, 255, 0, 1, 2, 3, FixupVolume.NONE};
        for (int k = 0; k < due.length; k++) {
            Check.same("inside, byte " + k, v.read(1, k), due[k]);
        }
        v.write(2, 70, 60, 7);
        for (int k = 0; k <= 130; k++) {
            int byteDue = k < 70 ? 0 : k < 130 ? 7 + k - 70 : FixupVolume.NONE;
            Check.same("outside, byte " + k, v.read(2, k), byteDue);
        }
        Check.same("behind the end in its last cluster", v.read(2, 131), FixupVolume.NONE);
        Check.list("the root", v, 0, 2, 1, 3);
        Check.list("an empty list", v, 3);
        int[] places = {-1, 1000, Integer.MIN_VALUE, Integer.MAX_VALUE};
        for (int k : places) {
            for (int r = 0; r < 4; r++) {
                Check.same("read(" + r + ", " + k + ")", v.read(r, k), FixupVolume.NONE);
            }
        }
        int[] none = {4, 11, 12, -1, Integer.MIN_VALUE, Integer.MAX_VALUE};
        for (int r : none) {
            Check.same("read(" + r + ", 0)", v.read(r, 0), FixupVolume.NONE);
        }
        lastBytes();
        Check.end();
    }

    private static void lastBytes() {
        int[] sizes = {1, 49, 50, 64, 65, 1000};
        for (int size : sizes) {
            FixupVolume v = new FixupVolume();
            Check.file(v, 0, "f");
            v.write(1, size - 1, 1, 200);
            Check.same("the last of " + size, v.read(1, size - 1), 200);
            Check.same("the one behind it", v.read(1, size), FixupVolume.NONE);
            Check.same("the first of more than one", v.read(1, 0), size == 1 ? 200 : 0);
            Check.same("the one before it", v.read(1, -1), FixupVolume.NONE);
        }
    }
}
