/** Promise 15: how many clusters aren't taken. */
public final class FreeTest {
    public static void main(String[] args) {
        FixupVolume v = new FixupVolume();
        Check.same("at first", v.free(), 80);
        Check.file(v, 0, "f");
        v.write(1, 0, 49, 1);
        Check.same("bytes inside take none", v.free(), 80);
        v.write(1, 49, 1, 1);
        Check.same("bytes outside", v.free(), 76);
        v.write(1, 500, 1, 1);
        Check.same("a hole takes none", v.free(), 75);
        v.write(1, 0, 60, 1);
        Check.same("written again", v.free(), 75);
        v.mount();
        Check.same("mounted", v.free(), 75);
        v.cut(1, 60);
        Check.same("cut", v.free(), 76);
        Check.cutOff(v, 1, () -> v.write(1, 60, 60, 1));
        Check.same("off", v.free(), 0);
        v.mount();
        Check.same("what was given in a call that went off", v.free(), 76);
        Check.cutOff(v, 1, () -> v.cut(1, 0));
        v.mount();
        Check.same("what was set free in a call that went off", v.free(), 76);
        v.remove(1);
        Check.same("removed", v.free(), 80);
        allTaken();
        Check.end();
    }

    private static void allTaken() {
        FixupVolume v = new FixupVolume();
        Check.file(v, 0, "f");
        Check.file(v, 0, "g");
        for (int at = 0; at < 1000; at += 50) {
            v.write(1, at, 50, 1);
        }
        Check.same("as many as one file can have", v.free(), 17);
        for (int at = 0; at < 256; at += 32) {
            v.write(2, at, 32, 1);
        }
        Check.same("one is left", v.free(), 1);
        v.write(2, 256, 1, 1);
        Check.same("none is left", v.free(), 0);
        Check.call("and none is given", () -> v.write(2, 272, 1, 1), Check.UNSUPPORTED);
        v.mount();
        Check.same("none is left, mounted", v.free(), 0);
        v.cut(2, 256);
        Check.same("one is left again", v.free(), 1);
    }
}
