/** Promise 20: the bytes of LETTERS, and DIFF. */
public final class LetterTest {
    public static void main(String[] args) {
        ofTheNearEnd();
        numbersAboveAByte();
        ofTheFarEnd();
        diffOfNothing();
        diffOfForms();
        diffOfScrolls();
        diffTakesTheLeastShift();
        diffCountsItsBytes();
        diffOfABlankScreen();
        diffFromSure();
        asking();
        Check.finish();
    }

    private static void ofTheNearEnd() {
        FarTypewriter x = Check.opened(0, 1, 1);
        Check.type(x, "ab\r");
        x.tick();
        Check.bytes(x, 0, 0, 75, 1, 0, 0, 0, 3, 0, 0, 'a', 'b', 13);
        x.round();
        x.round();
        x.roam();
        x.key('c');
        x.tick();
        Check.bytes(x, 0, 0, 75, 2, 0, 3, 0, 4, 0, 1, 'c');
    }

    private static void numbersAboveAByte() {
        FarTypewriter x = Check.opened(3, 1, 1);
        int[] want = new int[8 + 300];
        want[0] = 75;
        want[1] = 1;
        want[4] = 1;
        want[5] = 44;
        for (int i = 0; i < 300; i++) {
            x.key(32 + i % 95);
            want[8 + i] = 32 + i % 95;
        }
        x.tick();
        Check.bytes(x, 0, 0, want);
        x.round();
        Check.due("TOOK", x.state(1, 0), 300);
        x.tick();
        Check.due("TOOK, higher", x.letter(1, 0, 7), 1);
        Check.due("TOOK, lower", x.letter(1, 0, 8), 44);
        x.carry(1, 0, 0, 0);
        Check.due("KNOWN", x.state(0, 1), 300);
        Check.due("alike()", x.alike(), true);
    }

    private static void ofTheFarEnd() {
        FarTypewriter x = Check.opened(0, 1, 1);
        x.pen(2);
        Check.type(x, "abc");
        x.round();
        x.move(5, 7);
        x.tick();
        Check.bytes(x, 1, 0, 83, 1, 0, 0, 0, 1, 0, 3, 5, 7, 0,
            0, 0, 0, 2, 'a', 2, 'b', 2, 'c', 2);
    }

    private static void diffOfNothing() {
        FarTypewriter x = Check.opened(0, 1, 1);
        x.move(7, 23);
        x.tick();
        Check.bytes(x, 1, 0, 83, 1, 0, 0, 0, 1, 0, 0, 7, 23, 0);
        x.carry(1, 0, 0, 0);
        Check.cursor(x, 0, 7, 23);
        Check.due("alike()", x.alike(), true);
    }

    private static void diffOfForms() {
        FarTypewriter x = Check.opened(0, 1, 1);
        Check.print(x, "   xxxx");
        x.move(2, 10);
        x.write('q');
        x.move(7, 22);
        x.pen(1);
        x.write('z');
        x.pen(2);
        x.move(7, 23);
        x.write('z');
        x.move(0, 0);
        x.tick();
        Check.due("the far SCREEN was scrolled", x.cell(1, 1, 10, 0), 'q');
        Check.bytes(x, 1, 0, 83, 1, 0, 0, 0, 1, 0, 0, 0, 0, 0,
            1, 1, 10, 10, 'q', 0,
            6, 0, 22, 23, 'z', 1, 'z', 2);
        x.carry(1, 0, 0, 0);
        Check.due("alike()", x.alike(), true);
        uniformRuns();
    }

    private static void uniformRuns() {
        FarTypewriter x = Check.opened(0, 1, 1);
        Check.print(x, "   xxxx");
        x.tick();
        Check.bytes(x, 1, 0, 83, 1, 0, 0, 0, 1, 0, 0, 0, 7, 0, 0, 1, 3, 6, 'x', 0);
        x.round();
        x.round();
        x.move(0, 4);
        Check.print(x, "yx");
        x.write('y');
        x.tick();
        int k = x.count(15) - 1;
        Check.bytes(x, 1, k, 83, 1, 0, 1, 0, 2, 0, 0, 0, 7, 0, 0, 0, 4, 6, 'y', 0, 'x', 0, 'y', 0);
        x.carry(1, k, 0, 0);
        Check.due("alike()", x.alike(), true);
    }

    /** What is drawn is told, and told to be there: SURE is NEWEST's, LINE 1 is empty. */
    static FarTypewriter told(String text) {
        FarTypewriter x = Check.opened(0, 1, 1);
        Check.print(x, text);
        Check.rounds(x, 3);
        Check.due("SURE", x.state(1, 1), 1);
        Check.due("LINE 1", x.count(15), 0);
        return x;
    }

    private static void diffOfScrolls() {
        FarTypewriter x = told("zero\rone\rtwo\rthree\rfour\rfive\rsix\rseven");
        x.scroll(2);
        x.move(6, 1);
        x.write('n');
        x.move(1, 2);
        x.tick();
        Check.bytes(x, 1, 0, 83, 1, 0, 1, 0, 2, 0, 0, 1, 2, 2, 6, 1, 1, 1, 'n', 0);
        x.carry(1, 0, 0, 0);
        Check.due("alike()", x.alike(), true);
        Check.row(x, 0, 0, 0, "two ");
        Check.row(x, 0, 5, 0, "seven ");
        Check.row(x, 0, 6, 0, " n ");
    }

    private static void diffTakesTheLeastShift() {
        FarTypewriter x = told("a\ra\ra\ra\ra\ra\ra\ra");
        x.wipe(7);
        x.move(0, 0);
        x.tick();
        Check.due("scrolled by 1 is alike", x.letter(1, 0, 11), 1);
        Check.due("bytes", x.letter(1, 0, 0), 13);
        FarTypewriter y = told("b");
        y.wipe(0);
        y.move(0, 0);
        y.tick();
        Check.due("1 to 8 are alike", y.letter(1, 0, 11), 1);
        FarTypewriter z = told("a\ra");
        z.move(1, 0);
        z.write('b');
        z.tick();
        Check.due("0 is the least of several", z.letter(1, 0, 11), 0);
    }

    /** Unscrolled one row of many cells is told; scrolled by 1, two rows of one cell each. */
    private static void diffCountsItsBytes() {
        String[] above = {"  xx\rab\ra", "  xxx\rab\ra"};
        for (int i = 0; i < above.length; i++) {
            FarTypewriter x = told(above[i]);
            x.wipe(0);
            x.move(0, 0);
            Check.print(x, "ab");
            x.tick();
            Check.due("shift for " + i, x.letter(1, 0, 11), i);
            Check.due("bytes for " + i, x.letter(1, 0, 0), 10 + 1 + 12 + 2);
            x.carry(1, 0, 0, 0);
            Check.due("alike()", x.alike(), true);
        }
    }

    private static void diffOfABlankScreen() {
        FarTypewriter x = told("0\r1\r2\r3\r4\r5\r6\r7");
        x.scroll(8);
        x.move(0, 0);
        x.tick();
        Check.bytes(x, 1, 0, 83, 1, 0, 1, 0, 2, 0, 0, 0, 0, 8);
        x.carry(1, 0, 0, 0);
        Check.due("alike()", x.alike(), true);
    }

    private static void diffFromSure() {
        FarTypewriter x = Check.opened(0, 1, 50);
        x.write('a');
        x.tick();
        x.write('b');
        x.tick();
        Check.bytes(x, 1, 1, 83, 1, 0, 0, 0, 2, 0, 0, 0, 2, 0, 0, 0, 0, 1, 'a', 0, 'b', 0);
        x.carry(1, 1, 0, 0);
        Check.row(x, 0, 0, 0, "ab ");
        x.tick();
        x.carry(0, 0, 0, 0);
        x.write('c');
        x.tick();
        Check.bytes(x, 1, 1, 83, 1, 0, 2, 0, 3, 0, 0, 0, 3, 0, 0, 1, 2, 2, 'c', 0);
    }

    private static void asking() {
        FarTypewriter x = Check.opened(0, 1, 1);
        x.key('a');
        x.tick();
        int min = Integer.MIN_VALUE;
        int max = Integer.MAX_VALUE;
        int[][] none = {{-1, 0, 0}, {2, 0, 0}, {1, 0, 0}, {0, 1, 0}, {0, -1, 0}, {0, 0, -1}, {0, 0, 12},
            {min, 0, 0}, {max, 0, 0}, {0, min, 0}, {0, max, 0}, {0, 0, min}, {0, 0, max}};
        for (int[] ask : none) {
            Check.due("letter of none", x.letter(ask[0], ask[1], ask[2]), -1);
        }
        Check.due("letter(0, 0, 0)", x.letter(0, 0, 0), 11);
        Check.due("letter(0, 0, 9)", x.letter(0, 0, 9), 'a');
    }
}
