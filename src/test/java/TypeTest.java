/** Promise 2: what the draft takes. */
public final class TypeTest {
    public static void main(String[] args) {
        everyCharacter();
        eightAtMost();
        refusedOnesLeaveTheDraft();
        whileOff();
        Check.end();
    }

    private static void everyCharacter() {
        for (int c = 0; c < 65536; c++) {
            FixupVolume v = new FixupVolume();
            boolean due = (c >= 'a' && c <= 'z') || (c >= '0' && c <= '9');
            Check.same("type(" + c + ")", v.type((char) c) ? 1 : 0, due ? 1 : 0);
        }
    }

    private static void eightAtMost() {
        FixupVolume v = new FixupVolume();
        for (int k = 0; k < 8; k++) {
            Check.yes("character " + k, v.type((char) ('a' + k)));
        }
        Check.no("the ninth", v.type('z'));
        Check.no("the tenth", v.type('0'));
        Check.same("create", v.create(0, true), 1);
        Check.bytes("its name", v, 64 + 10, 1, 10, 'a', 'b', 'c', 'd', 'e', 'f', 'g', 'h', 2, 2);
        Check.yes("the draft is empty again", v.type('a'));
    }

    private static void refusedOnesLeaveTheDraft() {
        FixupVolume v = new FixupVolume();
        v.type('q');
        Check.no("A", v.type('A'));
        Check.no("a blank", v.type(' '));
        Check.no("the character 256 + a", v.type((char) (256 + 'a')));
        Check.same("create", v.create(0, false), 1);
        Check.same("find q", Check.found(v, 0, "q"), 1);
    }

    private static void whileOff() {
        FixupVolume v = new FixupVolume();
        v.type('x');
        Check.cutOff(v, 1, () -> v.create(0, true));
        Check.yes("type while off", v.type('y'));
        v.mount();
        Check.same("create", v.create(0, true), 1);
        Check.same("find y", Check.found(v, 0, "y"), 1);
    }
}
