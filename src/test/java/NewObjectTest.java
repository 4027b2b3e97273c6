/** Promise 1: the volume as it is at first, an empty draft. */
public final class NewObjectTest {
    public static void main(String[] args) {
        rootAlone();
        bytesOfTheRoot();
        otherBytesAreZero();
        objectsAreApart();
        Check.end();
    }

    private static void rootAlone() {
        FixupVolume v = new FixupVolume();
        Check.yes("on()", v.on());
        Check.same("free()", v.free(), 80);
        Check.same("state", v.record(0, 0), 2);
        Check.same("parent", v.record(0, 1), 0);
        Check.same("number", v.record(0, 2), 1);
        Check.list("the root", v, 0);
        for (int r = 1; r < 12; r++) {
            Check.same("record " + r, v.record(r, 0), FixupVolume.NONE);
        }
        Check.same("find with the empty draft", v.find(0), FixupVolume.NONE);
        Check.call("create with the empty draft", () -> v.create(0, true), Check.ARGUMENT);
        Check.same("mount()", v.mount(), 0);
        Check.same("number behind it", v.record(0, 2), 1);
    }

    private static void bytesOfTheRoot() {
        FixupVolume v = new FixupVolume();
        Check.bytes("the root", v, 0, 2, 0, 1, 0, 0, 0, 0, 0, 2, 0, 4, 2, 0, 0, 0, 0);
        Check.bytes("sector 0's end", v, 28, 0, 0, 1, 0);
        Check.bytes("sector 1's end", v, 60, 0, 0, 1, 0);
    }

    /** Several objects, so that none is asked more than 512 times. */
    private static void otherBytesAreZero() {
        for (int from = 64; from < 2048; from += 496) {
            FixupVolume v = new FixupVolume();
            for (int k = from; k < from + 496; k++) {
                Check.same("at(" + k + ")", v.at(k), 0);
            }
        }
    }

    private static void objectsAreApart() {
        FixupVolume one = new FixupVolume();
        FixupVolume other = new FixupVolume();
        Check.file(one, 0, "a");
        one.type('b');
        Check.same("the other's record 1", other.record(1, 0), FixupVolume.NONE);
        Check.call("the other's draft", () -> other.create(0, true), Check.ARGUMENT);
    }
}
