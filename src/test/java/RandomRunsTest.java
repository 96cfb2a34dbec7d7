import java.util.Random;

/** Random runs of 512 calls on FarTypewriter and PlainModel: each answer, and now and then all that can be asked. */
public final class RandomRunsTest {
    private static final int RUNS = 200;
    private static final int CALLS = 512;
    private static final int[] ODD = {Integer.MIN_VALUE, -257, -2, -1, 0, 1, 8, 9, 24, 60, 127, 256, Integer.MAX_VALUE};

    private final Random random;
    private final FarTypewriter x = new FarTypewriter();
    private final PlainModel m = new PlainModel();
    private final int style;
    private final StringBuilder calls = new StringBuilder();
    private boolean wrong = false;

    private RandomRunsTest(int seed) {
        random = new Random(seed);
        style = seed % 8;
    }

    public static void main(String[] args) {
        int[] seen = new int[16];
        for (int seed = 0; seed < RUNS; seed++) {
            RandomRunsTest run = new RandomRunsTest(seed);
            run.run();
            if (run.wrong) {
                System.out.println("in run " + seed + ": " + run.calls);
                System.exit(1);
            }
            for (int what = 0; what < 16; what++) {
                seen[what] += run.x.count(what);
            }
        }
        for (int what : new int[] {0, 1, 2, 3, 4, 5, 7, 8, 9}) {
            Check.due("runs bring count(" + what + ")", seen[what] > 0, true);
        }
        Check.due("FORGED", seen[6], 0);
        Check.finish();
    }

    private void run() {
        reopen();
        for (int i = 0; i < CALLS && !wrong; i++) {
            change();
            if (i % 16 == 0 || i == CALLS - 1) {
                all();
            }
        }
    }

    private void reopen() {
        int p = style % 4;
        int f = 1 + random.nextInt(3);
        int a = f + random.nextInt(6);
        open(p, f, a);
    }

    private void open(int p, int f, int a) {
        both("open(" + p + ", " + f + ", " + a + ")", x.open(p, f, a) ? 1 : 0, m.open(p, f, a) ? 1 : 0);
    }

    private void both(String call, int got, int want) {
        calls.append(call).append(" = ").append(got).append("; ");
        if (got != want) {
            calls.append("due is ").append(want);
            wrong = true;
        }
    }

    private int odd(int usual) {
        return random.nextInt(60) == 0 ? ODD[random.nextInt(ODD.length)] : usual;
    }

    private void change() {
        int choice = random.nextInt(100);
        if (choice < 30) {
            key();
        } else if (choice < 45) {
            draw();
        } else if (choice < 65) {
            both("tick()", x.tick(), m.tick());
        } else if (choice < (style < 4 ? 85 : 70)) {
            carry();
        } else if (choice < (style < 2 ? 95 : 72)) {
            both("round()", x.round(), m.round());
        } else if (choice == 98) {
            both("roam()", x.roam(), m.roam());
        } else if (choice == 99) {
            int p = odd(random.nextInt(4));
            both("program(" + p + ")", x.program(p), m.program(p));
        } else if (random.nextInt(400) == 0) {
            open(odd(random.nextInt(4)), odd(1 + random.nextInt(3)), odd(4));
        }
    }

    private void key() {
        int[] special = {13, 8, 1, 2, 3, 4, 3, 4};
        int k = random.nextInt(5) == 0 ? special[random.nextInt(8)] : 32 + random.nextInt(95);
        int typed = odd(k);
        both("key(" + typed + ")", x.key(typed), m.key(typed));
    }

    private void draw() {
        int a = odd(random.nextInt(8));
        int b = odd(random.nextInt(24));
        switch (random.nextInt(10)) {
            case 0 -> both("move(" + a + ", " + b + ")", x.move(a, b) ? 1 : 0, m.move(a, b) ? 1 : 0);
            case 1 -> both("wipe(" + a + ")", x.wipe(a) ? 1 : 0, m.wipe(a) ? 1 : 0);
            case 2 -> both("scroll(" + a + ")", x.scroll(a) ? 1 : 0, m.scroll(a) ? 1 : 0);
            case 3 -> both("pen(" + a / 2 + ")", x.pen(a / 2), m.pen(a / 2));
            case 4 -> both("write(13)", x.write(13) ? 1 : 0, m.write(13) ? 1 : 0);
            case 5 -> both("write(8)", x.write(8) ? 1 : 0, m.write(8) ? 1 : 0);
            default -> {
                int sign = odd(95 + random.nextInt(random.nextBoolean() ? 2 : 30));
                both("write(" + sign + ")", x.write(sign) ? 1 : 0, m.write(sign) ? 1 : 0);
            }
        }
    }

    private void carry() {
        int line = random.nextInt(2);
        int size = m.count(14 + line);
        int k = size == 0 || random.nextInt(3) > 0 ? 0 : random.nextInt(size);
        int how = new int[] {0, 0, 0, 0, 0, 1, 2, 2, 3}[random.nextInt(9)];
        int arg = odd(random.nextInt(24 * 256)) & (random.nextInt(4) == 0 ? ~255 : -1);
        int l = odd(line);
        int letter = odd(k);
        int h = odd(how);
        both("carry(" + l + ", " + letter + ", " + h + ", " + arg + ")", x.carry(l, letter, h, arg),
            m.carry(l, letter, h, arg));
    }

    private void all() {
        for (int end = 0; end < 4; end++) {
            for (int i = 0; i < 192; i++) {
                same("cell", x.cell(end, i / 24, i % 24, 0), m.cell(end, i / 24, i % 24, 0));
                same("mark", x.cell(end, i / 24, i % 24, 1), m.cell(end, i / 24, i % 24, 1));
            }
            same("cursor row", x.cursor(end, 0), m.cursor(end, 0));
            same("cursor column", x.cursor(end, 1), m.cursor(end, 1));
        }
        same("alike", x.alike() ? 1 : 0, m.alike() ? 1 : 0);
        for (int end = 0; end < 2; end++) {
            for (int what = -1; what < 34; what++) {
                same("state(" + end + ", " + what + ")", x.state(end, what), m.state(end, what));
                same("kept(" + end + ", " + what + ")", x.kept(end, what), m.kept(end, what));
            }
        }
        for (int what = -1; what < 18; what++) {
            same("count(" + what + ")", x.count(what), m.count(what));
        }
        for (int i = -1; i < 62; i++) {
            for (int what = -1; what < 9; what++) {
                same("guess(" + i + ", " + what + ")", x.guess(i, what), m.guess(i, what));
            }
        }
        lines();
    }

    private void lines() {
        for (int line = -1; line < 3; line++) {
            for (int k = -1; k < 42; k++) {
                int bytes = m.letter(line, k, 0);
                for (int what = -1; what < bytes + 3; what++) {
                    same("letter(" + line + ", " + k + ", " + what + ")", x.letter(line, k, what),
                        m.letter(line, k, what));
                }
            }
        }
    }

    private void same(String what, int got, int want) {
        if (got != want && !wrong) {
            both(what, got, want);
        }
    }
}
