/** Promise 2: what the draft takes. */
public final class TypeTest {
    public static void main(String[] args) {
        everyCharacter();
        eightAtMost();
        refusedOnesLeaveTheDraft();
        whileOff();
        keptByOtherCalls();
        Check.end();
    }

    private static void everyCharacter() {
        for (int c = 0; c < 65536; c++) {
            FixupVolume v = new FixupVolume();
            boolean due = (c >= 'a' && c <= 'z') || (c >= '0' && c <= '9');
            Check.same("type(" + c + ")", v.type((char) c) ? 1 : 0, due ? 1 : 0);
        }
    }

    private static void eightAtMost() {
        FixupVolume v = new FixupVolume();
        for (int k = 0; k < 8; k++) {
            Check.yes("character " + k, v.type((char) ('a' + k)));
        }
        Check.no("the ninth", v.type('z'));
        Check.no("the tenth", v.type('0'));
        Check.same("create", v.create(0, true), 1);
        Check.bytes("its name", v, 64 + 10, 1, 10, 'a', 'b', 'c', 'd', 'e', 'f', 'g', 'h', 2, 2);
        Check.yes("the draft is empty again", v.type('a'));
    }

    private static void refusedOnesLeaveTheDraft() {
        FixupVolume v = new FixupVolume();
        v.type('q');
        Check.no("A", v.type('A'));
        Check.no("a blank", v.type(' '));
        Check.no("the character 256 + a", v.type((char) (256 + 'a')));
        Check.same("create", v.create(0, false), 1);
        Check.same("find q", Check.found(v, 0, "q"), 1);
    }

    private static void whileOff() {
        FixupVolume v = new FixupVolume();
        v.type('x');
        Check.cutOff(v, 1, () -> v.create(0, true));
        Check.yes("type while off", v.type('y'));
        v.mount();
        Check.same("create", v.create(0, true), 1);
        Check.same("find y", Check.found(v, 0, "y"), 1);
    }

    /** Only create and find make the draft empty, not a volume that goes off, nor mounting. */
    private static void keptByOtherCalls() {
        FixupVolume v = new FixupVolume();
        Check.file(v, 0, "f");
        Check.directory(v, 0, "d");
        v.type('x');
        v.write(1, 0, 1, 1);
        v.cut(1, 0);
        v.move(1, 2);
        Check.call("a refused call", () -> v.remove(0), Check.ARGUMENT);
        Check.cutOff(v, 1, () -> v.remove(1));
        v.mount();
        v.type('y');
        v.mount();
        v.remove(1);
        Check.same("the lowest free record", v.create(0, true), 1);
        Check.bytes("its name", v, 64 + 10, 1, 4, 'x', 'y', 2, 2);
    }
}
