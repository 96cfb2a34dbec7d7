/** The edges of what PROGRAMS do with keys: Terms I, and promises 3 and 4. */
final class ProgramBoundaries {
    private static final int MIN = Integer.MIN_VALUE;
    private static final int MAX = Integer.MAX_VALUE;
    private static final int UP = 1;
    private static final int DOWN = 2;
    private static final int RIGHT = 3;
    private static final int LEFT = 4;
    private static final int BACK = 8;
    private static final int NEWLINE = 13;

    private ProgramBoundaries() { }

    static void all() {
        Doc.term("I", 4, "PROGRAMS take keys (13, 8, 1 up, 2 down, 3 right, 4 left, 32 .. 126).",
            ProgramBoundaries::everyKey);
        Doc.term("I", 4, "0 ECHO: LETTER; 13 NEWLINE; 8 BACK;", ProgramBoundaries::echoAtTheEdges);
        Doc.term("I", 4, "1 to 4 move the cursor by one, if it stays on the SCREEN.",
            ProgramBoundaries::stepsStayOnTheScreen);
        Doc.term("I", 4, "1 LINES: a LETTER in column 23 is left;", ProgramBoundaries::linesInTheLastColumn);
        Doc.term("I", 4, "but 13 is NEWLINE and then LETTER >", ProgramBoundaries::linesInTheLastRow);
        Doc.term("I", 4, "1, 2 are left;", ProgramBoundaries::linesLeavesUpAndDown);
        Doc.term("I", 4, "8 and 4 are left in columns 0 and 1.", ProgramBoundaries::linesInTheFirstColumns);
        Doc.term("I", 17, "2 PASS: letters are counted (up to 20)", ProgramBoundaries::passCountsUpTo20);
        Doc.term("I", 17, "8 counts one less (not below 0)", ProgramBoundaries::passCountsNotBelow0);
        Doc.term("I", 4, "13: as many LETTERS * as are counted, NEWLINE, and the count is 0;",
            ProgramBoundaries::passTellsNoneAndAll);
        Doc.term("I", 4, "and the count is 0; others are left.", ProgramBoundaries::passLeavesSteps);
        Doc.term("I", 4, "3 PAGER: of a letter SCROLL by 1, and row 7 is that letter with the PEN in all CELLS, "
            + "the cursor 7 0;", ProgramBoundaries::pagerFillsTheLastRow);
        Doc.term("I", 4, "the cursor 7 0; others are left.", ProgramBoundaries::pagerLeavesOthers);
        Doc.promise(3, "Another program takes keys from now on", ProgramBoundaries::keysUnderWay);
        Doc.promise(3, "(its PASS count is 0)", ProgramBoundaries::countBeginsAgain);
        Doc.promise(3, "the one before; NONE when there is none such.", ProgramBoundaries::noSuchProgram);
        Doc.promise(4, "how many KEYS; NONE: it is no key", ProgramBoundaries::noKey);
        Doc.promise(4, "or there are 1000.", ProgramBoundaries::a1001stKey);
        Doc.term("II", 4, "THE NEAR END has typed KEYS (1000 at most);", ProgramBoundaries::allOf1000Keys);
    }

    private static FarTypewriter opened(int program) {
        return Check.opened(program, 1, 1);
    }

    /** Types at the near end and lets the far end take it at once. */
    private static void typed(FarTypewriter x, int... keys) {
        for (int k : keys) {
            Check.due("key(" + k + ")", x.key(k) > 0, true);
        }
        x.round();
    }

    private static void everyKey() {
        FarTypewriter x = opened(2);
        int keys = 0;
        for (int k = 1; k <= 126; k++) {
            if (k <= 4 || k == 8 || k == 13 || k >= 32) {
                keys++;
                Check.due("key(" + k + ")", x.key(k), keys);
            }
        }
        Check.due("KEYS", x.state(0, 0), 101);
        x.round();
        Check.due("TOOK", x.state(1, 0), 101);
    }

    private static void echoAtTheEdges() {
        FarTypewriter x = opened(0);
        x.move(7, 23);
        x.write('s');
        x.move(7, 22);
        typed(x, 'a', 'b');
        Check.row(x, 1, 6, 22, "ab");
        Check.row(x, 1, 5, 23, "s");
        Check.cursor(x, 1, 7, 0);
        typed(x, BACK);
        Check.cursor(x, 1, 7, 0);
        Check.row(x, 1, 6, 23, "b");
        typed(x, 'c', BACK, NEWLINE);
        Check.row(x, 1, 6, 0, " ");
        Check.row(x, 1, 5, 22, "ab");
        Check.cursor(x, 1, 7, 0);
    }

    private static void step(int key, int row, int column, int wantRow, int wantColumn) {
        FarTypewriter x = opened(0);
        x.move(row, column);
        typed(x, key);
        Check.cursor(x, 1, wantRow, wantColumn);
    }

    private static void stepsStayOnTheScreen() {
        step(UP, 1, 5, 0, 5);
        step(UP, 0, 5, 0, 5);
        step(DOWN, 6, 5, 7, 5);
        step(DOWN, 7, 5, 7, 5);
        step(RIGHT, 3, 22, 3, 23);
        step(RIGHT, 3, 23, 3, 23);
        step(LEFT, 3, 1, 3, 0);
        step(LEFT, 3, 0, 3, 0);
        step(RIGHT, 7, 23, 7, 23);
        step(LEFT, 0, 0, 0, 0);
    }

    private static void linesInTheLastColumn() {
        FarTypewriter x = opened(1);
        x.move(2, 22);
        typed(x, 'a');
        Check.row(x, 1, 2, 22, "a ");
        Check.cursor(x, 1, 2, 23);
        typed(x, 'b', 'c');
        Check.row(x, 1, 2, 22, "a ");
        Check.cursor(x, 1, 2, 23);
        typed(x, RIGHT);
        Check.cursor(x, 1, 2, 23);
        typed(x, BACK);
        Check.row(x, 1, 2, 22, "  ");
        Check.cursor(x, 1, 2, 22);
    }

    private static void linesInTheLastRow() {
        FarTypewriter x = opened(1);
        x.pen(2);
        x.move(6, 23);
        typed(x, NEWLINE);
        Check.row(x, 1, 7, 0, "> ");
        Check.due("its mark", x.cell(1, 7, 0, 1), 2);
        Check.cursor(x, 1, 7, 1);
        typed(x, NEWLINE);
        Check.row(x, 1, 6, 0, "> ");
        Check.row(x, 1, 7, 0, "> ");
        Check.cursor(x, 1, 7, 1);
    }

    private static void linesLeavesUpAndDown() {
        FarTypewriter x = opened(1);
        x.move(3, 5);
        typed(x, UP);
        Check.cursor(x, 1, 3, 5);
        typed(x, DOWN);
        Check.cursor(x, 1, 3, 5);
        typed(x, RIGHT);
        Check.cursor(x, 1, 3, 6);
    }

    private static void linesInTheFirstColumns() {
        for (int column = 0; column <= 3; column++) {
            boolean left = column <= 1;
            FarTypewriter x = opened(1);
            Check.print(x, "abcd");
            x.move(0, column);
            typed(x, LEFT);
            Check.cursor(x, 1, 0, left ? column : column - 1);
            Check.row(x, 1, 0, 0, "abcd");
            x.move(0, column);
            typed(x, BACK);
            Check.cursor(x, 1, 0, left ? column : column - 1);
            Check.due("CELL 0", x.cell(1, 0, 0, 0), 'a');
            Check.due("CELL 1", x.cell(1, 0, 1, 0), column == 2 ? 32 : 'b');
        }
    }

    private static void letters(FarTypewriter x, int n) {
        for (int i = 0; i < n; i++) {
            x.key('a');
        }
        x.round();
    }

    private static void passCountsUpTo20() {
        FarTypewriter x = opened(2);
        letters(x, 19);
        Check.due("counted", x.state(1, 7), 19);
        letters(x, 1);
        Check.due("counted", x.state(1, 7), 20);
        letters(x, 1);
        Check.due("one more is not counted", x.state(1, 7), 20);
        typed(x, BACK);
        Check.due("one less", x.state(1, 7), 19);
        typed(x, 32, 126);
        Check.due("the least and the greatest letter", x.state(1, 7), 20);
    }

    private static void passCountsNotBelow0() {
        FarTypewriter x = opened(2);
        typed(x, BACK);
        Check.due("of none", x.state(1, 7), 0);
        typed(x, 'a', BACK);
        Check.due("of one", x.state(1, 7), 0);
        typed(x, BACK, BACK, 'a');
        Check.due("it counts from 0", x.state(1, 7), 1);
    }

    private static void passTellsNoneAndAll() {
        FarTypewriter x = opened(2);
        typed(x, NEWLINE);
        Check.row(x, 1, 0, 0, " ");
        Check.cursor(x, 1, 1, 0);
        letters(x, 25);
        typed(x, NEWLINE);
        Check.row(x, 1, 1, 0, "*".repeat(20) + " ");
        Check.cursor(x, 1, 2, 0);
        Check.due("counted", x.state(1, 7), 0);
        typed(x, NEWLINE);
        Check.row(x, 1, 2, 0, " ");
        Check.cursor(x, 1, 3, 0);
        x.pen(3);
        x.move(7, 22);
        typed(x, 'a', 'b', NEWLINE);
        Check.row(x, 1, 5, 21, " **");
        Check.due("the last one's mark", x.cell(1, 5, 23, 1), 3);
        Check.cursor(x, 1, 7, 0);
    }

    private static void passLeavesSteps() {
        FarTypewriter x = opened(2);
        x.move(3, 3);
        letters(x, 2);
        typed(x, UP, DOWN, RIGHT, LEFT, UP, RIGHT);
        Check.cursor(x, 1, 3, 3);
        Check.due("counted", x.state(1, 7), 2);
        Check.row(x, 1, 3, 2, "   ");
    }

    private static void pagerFillsTheLastRow() {
        FarTypewriter x = opened(3);
        x.pen(2);
        x.move(0, 23);
        typed(x, 'a');
        Check.row(x, 1, 7, 0, "a".repeat(24));
        Check.row(x, 1, 6, 0, " ".repeat(24));
        Check.due("the first mark", x.cell(1, 7, 0, 1), 2);
        Check.due("the last mark", x.cell(1, 7, 23, 1), 2);
        Check.cursor(x, 1, 7, 0);
        typed(x, 'b', 'c', 'd', 'e', 'f', 'g', 32);
        Check.row(x, 1, 0, 0, "a".repeat(24));
        Check.due("a space has the PEN too", x.cell(1, 7, 23, 1), 2);
        typed(x, 126);
        Check.row(x, 1, 0, 0, "b".repeat(24));
        Check.row(x, 1, 7, 0, "~".repeat(24));
    }

    private static void pagerLeavesOthers() {
        FarTypewriter x = opened(3);
        typed(x, 'a');
        x.move(4, 4);
        typed(x, NEWLINE, BACK, UP, DOWN, RIGHT, LEFT, UP, RIGHT);
        Check.cursor(x, 1, 4, 4);
        Check.row(x, 1, 7, 0, "a");
        Check.row(x, 1, 6, 0, " ");
    }

    /** A key that was typed under another program, but is taken only now. */
    private static void keysUnderWay() {
        FarTypewriter x = opened(0);
        x.key('a');
        x.tick();
        Check.due("program(3)", x.program(3), 0);
        x.carry(0, 0, 0, 0);
        Check.row(x, 1, 7, 0, "a".repeat(24));
        Check.row(x, 1, 0, 0, " ");
    }

    private static void countBeginsAgain() {
        FarTypewriter x = opened(2);
        letters(x, 3);
        Check.due("program(2)", x.program(2), 2);
        Check.due("counted", x.state(1, 7), 0);
        letters(x, 20);
        Check.due("program(0)", x.program(0), 2);
        Check.due("program(2)", x.program(2), 0);
        typed(x, NEWLINE);
        Check.row(x, 1, 0, 0, " ");
    }

    private static void noSuchProgram() {
        FarTypewriter x = opened(2);
        letters(x, 3);
        for (int p : new int[] {MIN, -1, 4, 256, MAX}) {
            Check.refused(x, "program(" + p + ")", () -> x.program(p), -1);
        }
        Check.due("program(0)", x.program(0), 2);
        Check.due("program(3)", x.program(3), 0);
        Check.due("program(3)", x.program(3), 3);
    }

    private static void noKey() {
        FarTypewriter x = opened(0);
        x.key('a');
        for (int k : new int[] {MIN, -1, 0, 5, 7, 9, 10, 12, 14, 31, 127, 128, 256 + 65, MAX}) {
            Check.refused(x, "key(" + k + ")", () -> x.key(k), -1);
        }
        Check.due("the next key", x.key('b'), 2);
    }

    private static FarTypewriter with1000Keys() {
        FarTypewriter x = opened(3);
        for (int i = 1; i <= 1000; i++) {
            Check.due("key " + i, x.key(32 + i % 95), i);
        }
        return x;
    }

    /** So many take more calls than the 512 that are promised; the class goes on all the same. */
    private static void a1001stKey() {
        FarTypewriter x = with1000Keys();
        for (int k : new int[] {'a', NEWLINE, BACK, UP, RIGHT, 0}) {
            Check.refused(x, "key(" + k + ")", () -> x.key(k), -1);
        }
        x.open(0, 1, 1);
        Check.due("behind open()", x.key('a'), 1);
    }

    private static void allOf1000Keys() {
        FarTypewriter x = with1000Keys();
        x.tick();
        Check.due("bytes", x.letter(0, 0, 0), 1010);
        Check.due("the last key", x.letter(0, 0, 1 + 8 + 999), 32 + 1000 % 95);
        x.carry(0, 0, 0, 0);
        Check.due("TOOK", x.state(1, 0), 1000);
        Check.row(x, 1, 7, 0, String.valueOf((char) (32 + 1000 % 95)));
        x.tick();
        x.carry(1, 0, 0, 0);
        Check.due("KNOWN", x.state(0, 1), 1000);
    }
}
