/** The last sentence of "What it is": an object answers as promised up to its 512th call. */
public final class LastCallTest {
    private static final int LAST_CALL = 512;

    public static void main(String[] args) {
        Check.call("type", () -> beforeLastCall().type('a') ? 1 : 0, 1);
        Check.call("create with the empty draft", () -> beforeLastCall().create(0, true), Check.ARGUMENT);
        Check.call("write", () -> beforeLastCall().write(1, 999, 1, 5), 1000);
        Check.call("cut", () -> beforeLastCall().cut(1, 0), 60);
        Check.call("remove", () -> beforeLastCall().remove(1), 4);
        Check.call("remove of record 0", () -> beforeLastCall().remove(0), Check.ARGUMENT);
        Check.call("move to where it is", () -> Check.moved(beforeLastCall(), 1, 0), Check.ARGUMENT);
        Check.call("fail", () -> beforeLastCall().fail(20) ? 1 : 0, 1);
        Check.call("mount", () -> beforeLastCall().mount(), 0);
        Check.call("on", () -> beforeLastCall().on() ? 1 : 0, 1);
        Check.call("find with the empty draft", () -> beforeLastCall().find(0), FixupVolume.NONE);
        Check.call("record", () -> beforeLastCall().record(1, 2), LAST_CALL - 2);
        Check.call("read", () -> beforeLastCall().read(1, 59), 158);
        Check.call("run", () -> beforeLastCall().run(1, 0, 0), 4);
        Check.call("free", () -> beforeLastCall().free(), 76);
        Check.call("at", () -> beforeLastCall().at(768), 99);
        Check.end();
    }

    /** A volume that has had all its calls but the last one: its file's record was written by all but the first. */
    private static FixupVolume beforeLastCall() {
        FixupVolume v = new FixupVolume();
        v.type('f');
        v.create(0, true);
        for (int call = 3; call < LAST_CALL; call++) {
            v.write(1, 0, 60, 99);
        }
        return v;
    }
}
