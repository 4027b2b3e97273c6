import java.util.ArrayDeque;
import java.util.Random;

/** Long runs of calls, each answer compared with the model's; no object is asked more than 512 times. */
public final class RandomRunsTest {
    private static final int RUNS = 3000;
    private static final int CALLS = 390;
    private static final int LOOKS = 112;
    private static final String[] NAMES = {"a", "b", "ab", "a0", "0", "abcdefgh", "abcdefgi", "zz"};

    private final Random random;
    private final FixupVolume v = new FixupVolume();
    private final Model m = new Model();
    private final ArrayDeque<String> last = new ArrayDeque<>();
    private final int seed;
    private final int temper;
    private int calls = 0;
    private boolean same = true;

    private RandomRunsTest(int seed) {
        this.seed = seed;
        this.random = new Random(seed);
        this.temper = seed % 5;
    }

    public static void main(String[] args) {
        for (int seed = 0; seed < RUNS; seed++) {
            Check.yes("run " + seed, new RandomRunsTest(seed).isSame());
        }
        Check.end();
    }

    private boolean isSame() {
        while (calls < CALLS && same) {
            step();
        }
        for (int k = 0; k < LOOKS && same; k++) {
            int place = random.nextInt(2048);
            compare("at(" + place + ")", () -> v.at(place), () -> m.at(place));
        }
        return same;
    }

    private void compare(String what, Check.Call program, Check.Call model) {
        calls++;
        int got = Check.outcome(program);
        int due = Check.outcome(model);
        last.add(what + " " + due);
        if (last.size() > 60) {
            last.remove();
        }
        if (got != due) {
            same = false;
            last.forEach(System.out::println);
            System.out.println("run " + seed + ", call " + calls + ": " + what
                    + " answered " + got + ", due is " + due);
        }
    }

    private void step() {
        if (!m.on() && random.nextInt(3) > 0) {
            if (random.nextInt(3) == 0) {
                fail();
            }
            compare("mount()", v::mount, m::mount);
            return;
        }
        int dice = random.nextInt(100);
        if (dice < 12) {
            create();
        } else if (dice < 48) {
            write();
        } else if (dice < 53) {
            cut();
        } else if (dice < 57) {
            int r = anyRecord();
            compare("remove(" + r + ")", () -> v.remove(r), () -> m.remove(r));
        } else if (dice < 63) {
            move();
        } else if (dice < 67) {
            fail();
        } else if (dice < 69) {
            compare("mount()", v::mount, m::mount);
        } else {
            look(dice);
        }
    }

    private int anyRecord() {
        return random.nextInt(30) == 0 ? random.nextInt(40) - 20 : random.nextInt(temper == 0 ? 4 : 12);
    }

    private int pick(int state) {
        for (int k = 0; k < 20; k++) {
            int r = random.nextInt(12);
            if (m.record(r, 0) == state) {
                return r;
            }
        }
        return anyRecord();
    }

    private void typeName() {
        String name = NAMES[random.nextInt(temper == 1 ? 3 : NAMES.length)];
        for (char c : name.toCharArray()) {
            compare("type(" + c + ")", () -> v.type(c) ? 1 : 0, () -> m.type(c) ? 1 : 0);
        }
    }

    private void create() {
        typeName();
        int d = random.nextInt(10) == 0 ? anyRecord() : pick(2);
        boolean isFile = random.nextInt(10) < 6;
        compare("create(" + d + ", " + isFile + ")", () -> v.create(d, isFile), () -> m.create(d, isFile));
    }

    private void write() {
        int r = random.nextInt(20) == 0 ? anyRecord() : pick(1);
        int size = Math.max(0, m.record(r, 4));
        int n = 1 + random.nextInt(60);
        int at = random.nextInt(1001 - n);
        switch (random.nextInt(temper == 2 ? 12 : 6)) {
            case 0:
                at = random.nextInt(Math.max(1, Math.min(size, 1001 - n)));
                n = 1 + random.nextInt(10);
                break;
            case 1:
                at = size + random.nextInt(20);
                break;
            case 2:
                at = random.nextInt(60);
                n = 1 + random.nextInt(5);
                break;
            case 3:
                at = random.nextInt(1100) - 50;
                n = random.nextInt(70) - 4;
                break;
            case 4:
                at = Math.max(0, size - random.nextInt(20));
                break;
            default:
                at = temper == 2 ? size : at;
        }
        int place = at;
        int count = n;
        int b = random.nextInt(5) == 0 ? random.nextInt() : random.nextInt(256);
        compare("write(" + r + ", " + place + ", " + count + ", " + b + ")",
                () -> v.write(r, place, count, b), () -> m.write(r, place, count, b));
    }

    private void cut() {
        int r = random.nextInt(20) == 0 ? anyRecord() : pick(1);
        int size = Math.max(0, m.record(r, 4));
        int[] choices = {0, size, size - 1, random.nextInt(size + 1), random.nextInt(size + 1), size + 1, -1};
        int to = choices[random.nextInt(choices.length)];
        compare("cut(" + r + ", " + to + ")", () -> v.cut(r, to), () -> m.cut(r, to));
    }

    private void move() {
        int r = anyRecord();
        int d = random.nextInt(10) == 0 ? anyRecord() : pick(2);
        compare("move(" + r + ", " + d + ")", () -> Check.moved(v, r, d), () -> {
            m.move(r, d);
            return 0;
        });
    }

    private void fail() {
        int n = random.nextInt(8) == 0 ? random.nextInt(40) - 10 : 1 + random.nextInt(temper == 3 ? 6 : 20);
        compare("fail(" + n + ")", () -> v.fail(n) ? 1 : 0, () -> m.fail(n) ? 1 : 0);
    }

    private void look(int dice) {
        int r = anyRecord();
        int k = random.nextInt(20) == 0 ? random.nextInt() : random.nextInt(dice % 2 == 0 ? 1000 : 12);
        int what = random.nextInt(10) == 0 ? random.nextInt() : random.nextInt(8);
        switch (dice % 8) {
            case 0:
                compare("on()", () -> v.on() ? 1 : 0, () -> m.on() ? 1 : 0);
                break;
            case 1:
                typeName();
                compare("find(" + r + ")", () -> v.find(r), () -> m.find(r));
                break;
            case 2:
                compare("record(" + r + ", " + what + ")", () -> v.record(r, what), () -> m.record(r, what));
                break;
            case 3:
            case 4:
                compare("read(" + r + ", " + k + ")", () -> v.read(r, k), () -> m.read(r, k));
                break;
            case 5:
                compare("run(" + r + ", " + k + ", " + what % 3 + ")",
                        () -> v.run(r, k, what % 3), () -> m.run(r, k, what % 3));
                break;
            case 6:
                compare("free()", v::free, m::free);
                break;
            default:
                int place = random.nextInt(2060) - 6;
                compare("at(" + place + ")", () -> v.at(place), () -> m.at(place));
        }
    }
}
