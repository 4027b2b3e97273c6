/** Promise 8: the cut that is told. */
public final class FailTest {
    public static void main(String[] args) {
        whatIsTaken();
        countsSectorsOfAllCalls();
        inPlaceOfWhatWasTold();
        wrongOnesChangeNothing();
        toldNoMoreBehindIt();
        refusedCallsWriteNoSectors();
        Check.end();
    }

    private static void whatIsTaken() {
        FixupVolume v = new FixupVolume();
        for (int n = -3; n <= 30; n++) {
            Check.same("fail(" + n + ")", v.fail(n) ? 1 : 0, n >= 0 && n <= 20 ? 1 : 0);
        }
        Check.no("the least", v.fail(Integer.MIN_VALUE));
        Check.no("the greatest", v.fail(Integer.MAX_VALUE));
    }

    private static void countsSectorsOfAllCalls() {
        for (int n = 1; n <= 20; n++) {
            FixupVolume v = new FixupVolume();
            Check.file(v, 0, "f");
            v.fail(n);
            int calls = (n - 1) / 2;
            for (int k = 0; k < calls; k++) {
                Check.call("write " + k + " of " + n, () -> v.write(1, 0, 1, 1), 1);
            }
            Check.call("the one that is cut", () -> v.write(1, 0, 1, 1), Check.STATE);
            Check.same("its first sector", v.at(64 + 2), 1 + calls + (n % 2 == 0 ? 1 : 0));
            Check.same("its second sector", v.at(64 + 62), 1 + calls);
        }
    }

    private static void inPlaceOfWhatWasTold() {
        FixupVolume v = new FixupVolume();
        v.fail(1);
        v.fail(0);
        Check.call("none is told", () -> Check.file(v, 0, "f"), 1);
        v.fail(1);
        v.fail(4);
        Check.call("the fourth", () -> v.write(1, 0, 1, 1), 1);
        Check.call("is here", () -> v.write(1, 0, 1, 1), Check.STATE);
    }

    private static void wrongOnesChangeNothing() {
        FixupVolume v = new FixupVolume();
        v.fail(2);
        Check.no("fail(21)", v.fail(21));
        Check.no("fail(-1)", v.fail(-1));
        Check.call("the second", () -> Check.file(v, 0, "f"), Check.STATE);
        Check.same("is cut", v.at(64 + 62), 0);
        Check.same("the first isn't", v.at(64 + 2), 1);
    }

    private static void toldNoMoreBehindIt() {
        FixupVolume v = new FixupVolume();
        Check.cutOff(v, 1, () -> Check.file(v, 0, "f"));
        Check.same("mount()", v.mount(), 0);
        Check.call("create", () -> Check.file(v, 0, "f"), 1);
        Check.call("write", () -> v.write(1, 0, 60, 1), 60);
    }

    private static void refusedCallsWriteNoSectors() {
        FixupVolume v = new FixupVolume();
        v.fail(1);
        Check.call("no such directory", () -> Check.file(v, 3, "f"), Check.ARGUMENT);
        Check.call("no such record", () -> v.remove(3), Check.ARGUMENT);
        Check.same("find", Check.found(v, 0, "f"), FixupVolume.NONE);
        Check.same("mount() that has nothing to write", v.mount(), 0);
        Check.yes("on()", v.on());
        Check.call("now it is cut", () -> Check.file(v, 0, "f"), Check.STATE);
    }
}
