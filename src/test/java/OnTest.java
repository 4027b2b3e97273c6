/** Promise 10: on, and what is answered while it is off. */
public final class OnTest {
    public static void main(String[] args) {
        FixupVolume v = new FixupVolume();
        Check.yes("at first", v.on());
        Check.directory(v, 0, "d");
        Check.file(v, 1, "f");
        v.write(2, 0, 60, 1);
        Check.call("a refused call", () -> v.remove(0), Check.ARGUMENT);
        Check.yes("behind it", v.on());
        Check.cutOff(v, 1, () -> v.write(2, 0, 1, 1));
        nothingInUse(v);
        Check.same("at goes on", v.at(0), 2);
        callsThrow(v);
        Check.same("mount()", v.mount(), 0);
        Check.yes("on again", v.on());
        Check.same("record", v.record(2, 4), 60);
        Check.same("read", v.read(2, 0), 1);
        Check.same("run", v.run(2, 0, 0), 4);
        Check.same("find", Check.found(v, 0, "d"), 1);
        Check.same("free()", v.free(), 76);
        Check.end();
    }

    private static void nothingInUse(FixupVolume v) {
        for (int r = 0; r < 3; r++) {
            for (int what = 0; what <= 6; what++) {
                Check.same("record(" + r + ", " + what + ")", v.record(r, what), FixupVolume.NONE);
            }
            Check.same("read(" + r + ", 0)", v.read(r, 0), FixupVolume.NONE);
            Check.same("run(" + r + ", 0, 0)", v.run(r, 0, 0), FixupVolume.NONE);
        }
        Check.same("find", Check.found(v, 0, "d"), FixupVolume.NONE);
        Check.same("free()", v.free(), 0);
    }

    private static void callsThrow(FixupVolume v) {
        Check.call("create", () -> Check.file(v, 0, "g"), Check.STATE);
        Check.call("write", () -> v.write(2, 0, 1, 1), Check.STATE);
        Check.call("cut", () -> v.cut(2, 0), Check.STATE);
        Check.call("remove", () -> v.remove(2), Check.STATE);
        Check.call("move", () -> Check.moved(v, 2, 0), Check.STATE);
    }
}
