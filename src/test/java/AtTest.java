/** Promise 16: the bytes of the volume as they lie there. */
public final class AtTest {
    public static void main(String[] args) {
        FixupVolume v = new FixupVolume();
        int[] none = {-1, 2048, 2049, Integer.MIN_VALUE, Integer.MAX_VALUE};
        for (int k : none) {
            Check.same("at(" + k + ")", v.at(k), FixupVolume.NONE);
        }
        Check.same("the first", v.at(0), 2);
        Check.same("the last", v.at(2047), 0);
        Check.file(v, 0, "f");
        for (int at = 0; at < 1000; at += 50) {
            v.write(1, at, 50, 200 + at);
        }
        Check.file(v, 0, "g");
        for (int at = 0; at < 272; at += 34) {
            v.write(2, at, 34, 100 + at);
        }
        Check.same("the first data byte", v.at(768), 200);
        Check.same("a number of two bytes is one of the lower one first", v.at(64 + 2), 21);
        Check.same("the last", v.at(2047), (100 + 271) & 255);
        Check.bytes("record 11", v, 11 * 64, 0, 0, 0, 0);
        Check.cutOff(v, 2, () -> v.write(1, 0, 1, 99));
        Check.same("also while off", v.at(768), 99);
        Check.same("also while off", v.at(2048), FixupVolume.NONE);
        twoByteNumber();
        Check.end();
    }

    /** Often enough that the number has a higher byte. */
    private static void twoByteNumber() {
        FixupVolume v = new FixupVolume();
        Check.file(v, 0, "f");
        for (int k = 2; k <= 300; k++) {
            v.write(1, 0, 1, k);
        }
        Check.bytes("its number", v, 64 + 2, 44, 1);
        Check.bytes("sector 0's end", v, 64 + 30, 44, 1);
        Check.bytes("sector 1's end", v, 64 + 62, 44, 1);
        Check.same("record", v.record(1, 2), 300);
        Check.same("mount()", v.mount(), 0);
        Check.same("record as mounting finds it", v.record(1, 2), 300);
    }
}
