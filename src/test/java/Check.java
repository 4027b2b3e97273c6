/** What the tests share: comparing answers, naming exceptions, and calls that go together. */
final class Check {
    interface Call {
        int answer();
    }

    static final int STATE = -1001;
    static final int ARGUMENT = -1002;
    static final int UNSUPPORTED = -1003;
    static final int OTHER = -1004;

    private static int compared = 0;
    private static int wrong = 0;

    private Check() {
    }

    static void same(String what, long got, long due) {
        compared++;
        if (got != due) {
            wrong++;
            System.out.println(what + " answered " + got + ", due is " + due);
        }
    }

    static void yes(String what, boolean got) {
        same(what, got ? 1 : 0, 1);
    }

    static void no(String what, boolean got) {
        same(what, got ? 1 : 0, 0);
    }

    /** What a call answers, or a number that stands for what it throws. */
    static int outcome(Call call) {
        try {
            return call.answer();
        } catch (IllegalStateException e) {
            return STATE;
        } catch (IllegalArgumentException e) {
            return ARGUMENT;
        } catch (UnsupportedOperationException e) {
            return UNSUPPORTED;
        } catch (RuntimeException e) {
            return OTHER;
        }
    }

    static void call(String what, Call call, long due) {
        same(what, outcome(call), due);
    }

    static int moved(FixupVolume v, int record, int directory) {
        v.move(record, directory);
        return 0;
    }

    static void name(FixupVolume v, String text) {
        for (char c : text.toCharArray()) {
            v.type(c);
        }
    }

    static int make(FixupVolume v, int directory, String text, boolean isFile) {
        name(v, text);
        return v.create(directory, isFile);
    }

    static int file(FixupVolume v, int directory, String text) {
        return make(v, directory, text, true);
    }

    static int directory(FixupVolume v, int directory, String text) {
        return make(v, directory, text, false);
    }

    static int found(FixupVolume v, int directory, String text) {
        name(v, text);
        return v.find(directory);
    }

    /** Only an empty draft takes eight characters; it is empty again behind this. */
    static void emptyDraft(String what, FixupVolume v) {
        boolean isTaken = true;
        for (int k = 0; k < 8; k++) {
            isTaken &= v.type('q');
        }
        yes(what + ": the draft is empty behind it", isTaken);
        v.find(0);
    }

    /** Tells the cut for the n-th sector of a call, which must go off by it. */
    static void cutOff(FixupVolume v, int n, Call call) {
        yes("fail(" + n + ")", v.fail(n));
        call("the call that is cut at sector " + n, call, STATE);
        no("on() behind it", v.on());
    }

    static void list(String what, FixupVolume v, int directory, int... due) {
        same(what + ": its length", v.record(directory, 4), due.length);
        for (int k = 0; k < due.length; k++) {
            same(what + ": entry " + k, v.read(directory, k), due[k]);
        }
        same(what + ": behind its end", v.read(directory, due.length), FixupVolume.NONE);
    }

    static void bytes(String what, FixupVolume v, int from, int... due) {
        for (int k = 0; k < due.length; k++) {
            same(what + ": at(" + (from + k) + ")", v.at(from + k), due[k]);
        }
    }

    static void end() {
        System.out.println(compared + " answers looked at, " + wrong + " not as due");
        if (wrong != 0 || compared == 0) {
            System.exit(1);
        }
    }
}
