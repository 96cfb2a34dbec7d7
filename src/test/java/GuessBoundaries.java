/** The edges of GUESSES: Terms IV, seen through promises 4, 15, 19 and 21. */
final class GuessBoundaries {
    private static final int RIGHT_KEY = 3;
    private static final int LEFT_KEY = 4;
    private static final int RIGHT = 7;
    private static final int WRONG = 8;
    private static final int TAKEN_BACK = 9;
    private static final int GUESSES = 11;
    private static final int CONFIRMED = 12;
    private static final int AGE = 13;

    private GuessBoundaries() { }

    static void all() {
        Doc.term("IV", 19, "(the near one with all GUESSES laid on it, its cursor that of the last GUESS, if there is "
            + "one)", GuessBoundaries::fromTheNearCursor);
        Doc.term("IV", 19, "of a letter: a CELL, that at the cursor, with that letter; the cursor goes one on, in "
            + "column 23 it stays where it is and a new AGE begins;", GuessBoundaries::lettersAtTheLastColumn);
        Doc.term("IV", 19, "of 3, 4: the cursor alone, one column on or back, if it stays on the row (else nothing);",
            GuessBoundaries::stepsStayOnTheRow);
        Doc.term("IV", 21, "of others: no GUESS, and a new AGE begins.", GuessBoundaries::othersBeginAnAge);
        Doc.term("IV", 19, "Each GUESS has the number of its key (from 1 on), its AGE (1 at first), its CELL (none "
            + "for 3, 4), where the cursor is behind it.", GuessBoundaries::firstGuess);
        Doc.term("IV", 21, "There are 60 at most (more are not made, and begin no AGE).",
            GuessBoundaries::a61stGuess);
        Doc.term("IV", 21, "SETTLED, behind each new STATE: in order, each GUESS whose key is not above that STATE's "
            + "TOOK:", GuessBoundaries::keysAroundTook);
        Doc.term("IV", 21, "it is RIGHT, if the SCREEN has its letter in its CELL", GuessBoundaries::letterInItsCell);
        Doc.term("IV", 21, "(without a CELL: if the cursor is where it says, or its key is below that TOOK)",
            GuessBoundaries::cursorOrKeyBelowTook);
        Doc.term("IV", 21, "then CONFIRMED (0 at first) is its AGE, if that is greater, and the GUESS goes;",
            GuessBoundaries::confirmedRises);
        Doc.term("IV", 21, "else it is WRONG: it and all others left go, and a new AGE begins.",
            GuessBoundaries::allOthersLeftGo);
        Doc.term("IV", 19, "SHOWN are GUESSES whose AGE is not above CONFIRMED;", GuessBoundaries::agesAroundConfirmed);
        Doc.term("IV", 21, "but if the program was 2 when the key was typed, there is no GUESS, and a new AGE begins.",
            GuessBoundaries::whenTheProgramWasPass);
        Doc.promise(21, "7 RIGHT, 8 WRONG, 9 taken back (a WRONG one, too)", GuessBoundaries::takenBack);
    }

    private static void counts(FarTypewriter x, int guesses, int age) {
        Check.due("GUESSES", x.count(GUESSES), guesses);
        Check.due("AGE", x.count(AGE), age);
    }

    private static void settled(FarTypewriter x, int right, int wrong, int takenBack) {
        Check.due("RIGHT", x.count(RIGHT), right);
        Check.due("WRONG", x.count(WRONG), wrong);
        Check.due("taken back", x.count(TAKEN_BACK), takenBack);
    }

    private static void press(FarTypewriter x, int... keys) {
        for (int k : keys) {
            x.key(k);
        }
    }

    /** The near cursor is there, and nothing is guessed. */
    private static FarTypewriter at(int program, int row, int column) {
        FarTypewriter x = Check.opened(program, 1, 50);
        x.move(row, column);
        x.round();
        Check.cursor(x, 0, row, column);
        return x;
    }

    /** The far end takes what was typed, and the near end its new STATE. */
    private static void echo(FarTypewriter x) {
        x.tick();
        x.carry(0, x.count(14) - 1, 0, 0);
        x.tick();
        x.carry(1, x.count(15) - 1, 0, 0);
        Check.due("KNOWN", x.state(0, 1), x.state(1, 0));
    }

    private static void fromTheNearCursor() {
        FarTypewriter x = at(0, 5, 6);
        Check.cursor(x, 3, 5, 6);
        x.key('a');
        Check.each("without one before: guess(0, what), what", what -> x.guess(0, what), 1, 1, 5, 6, 'a', 0, 5, 7);
        x.key('b');
        Check.each("with one before: guess(1, what), what", what -> x.guess(1, what), 2, 1, 5, 7, 'b', 0, 5, 8);
        x.move(1, 1);
        x.round();
        Check.cursor(x, 0, 1, 1);
        x.key('c');
        Check.each("the near cursor went: guess(2, what), what", what -> x.guess(2, what), 3, 1, 5, 8, 'c', 0, 5, 9);
    }

    private static void lettersAtTheLastColumn() {
        FarTypewriter x = at(0, 2, 22);
        x.key('a');
        Check.each("guess(0, what), what", what -> x.guess(0, what), 1, 1, 2, 22, 'a', 0, 2, 23);
        counts(x, 1, 1);
        x.key('b');
        Check.each("guess(1, what), what", what -> x.guess(1, what), 2, 1, 2, 23, 'b', 0, 2, 23);
        counts(x, 2, 2);
        x.key('c');
        Check.each("guess(2, what), what", what -> x.guess(2, what), 3, 2, 2, 23, 'c', 0, 2, 23);
        counts(x, 3, 3);
        Check.row(x, 3, 2, 21, " ac");
        Check.cursor(x, 3, 2, 23);
    }

    private static void stepsStayOnTheRow() {
        FarTypewriter x = at(0, 7, 22);
        x.key(RIGHT_KEY);
        Check.each("guess(0, what), what", what -> x.guess(0, what), 1, 1, -1, -1, -1, 0, 7, 23);
        x.key(RIGHT_KEY);
        counts(x, 1, 1);
        Check.cursor(x, 3, 7, 23);
        FarTypewriter y = at(0, 3, 1);
        y.key(LEFT_KEY);
        Check.each("guess(0, what), what", what -> y.guess(0, what), 1, 1, -1, -1, -1, 0, 3, 0);
        y.key(LEFT_KEY);
        counts(y, 1, 1);
        Check.cursor(y, 3, 3, 0);
        FarTypewriter z = new FarTypewriter();
        z.key(LEFT_KEY);
        counts(z, 0, 1);
        Check.due("it was a key all the same", z.state(0, 0), 1);
    }

    private static void othersBeginAnAge() {
        FarTypewriter x = new FarTypewriter();
        int age = 1;
        for (int k : new int[] {13, 8, 1, 2}) {
            x.key(k);
            age++;
            counts(x, 0, age);
        }
        press(x, 0, 5, 31, 127);
        counts(x, 0, 5);
        x.key(32);
        counts(x, 1, 5);
        x.key(126);
        counts(x, 2, 5);
        x.key(8);
        counts(x, 2, 6);
        Check.cursor(x, 3, 0, 2);
    }

    private static void firstGuess() {
        FarTypewriter x = new FarTypewriter();
        press(x, 0, 127);
        x.key('a');
        Check.each("guess(0, what), what", what -> x.guess(0, what), 1, 1, 0, 0, 'a', 0, 0, 1);
        x.open(0, 1, 1);
        x.key(RIGHT_KEY);
        Check.each("behind open(): guess(0, what), what", what -> x.guess(0, what), 1, 1, -1, -1, -1, 0, 0, 1);
        press(x, 13, LEFT_KEY);
        Check.each("guess(1, what), what", what -> x.guess(1, what), 3, 2, -1, -1, -1, 0, 0, 0);
    }

    /** Steps to the last column, to and fro there, and a letter: 60 GUESSES, the cursor in column 23. */
    private static FarTypewriter with60Guesses() {
        FarTypewriter x = Check.opened(0, 1, 50);
        for (int i = 1; i <= 59; i++) {
            x.key(i > 23 && i % 2 == 0 ? LEFT_KEY : RIGHT_KEY);
        }
        counts(x, 59, 1);
        Check.cursor(x, 3, 0, 23);
        x.key('a');
        counts(x, 60, 2);
        return x;
    }

    private static void a61stGuess() {
        FarTypewriter x = with60Guesses();
        Check.due("a letter in column 23", x.key('b'), 61);
        counts(x, 60, 2);
        Check.row(x, 3, 0, 23, "a");
        Check.due("a step", x.key(LEFT_KEY), 62);
        counts(x, 60, 2);
        Check.cursor(x, 3, 0, 23);
        Check.due("guess(59, 0)", x.guess(59, 0), 60);
        Check.due("guess(60, 0)", x.guess(60, 0), -2);
        FarTypewriter y = Check.opened(0, 1, 50);
        for (int i = 1; i <= 60; i++) {
            y.key(i % 2 == 0 ? LEFT_KEY : RIGHT_KEY);
        }
        y.key('a');
        counts(y, 60, 1);
        Check.row(y, 3, 0, 0, " ");
        Check.cursor(y, 3, 0, 0);
        roomForOneAgain();
    }

    private static void roomForOneAgain() {
        FarTypewriter x = Check.opened(0, 1, 50);
        x.key(RIGHT_KEY);
        x.tick();
        for (int i = 2; i <= 61; i++) {
            x.key(i % 2 == 0 ? LEFT_KEY : RIGHT_KEY);
        }
        counts(x, 60, 1);
        x.carry(0, 0, 0, 0);
        x.tick();
        x.carry(1, 0, 0, 0);
        settled(x, 1, 0, 0);
        counts(x, 59, 1);
        Check.due("guess(0, 0)", x.guess(0, 0), 2);
        x.key('a');
        counts(x, 60, 1);
        for (int i = 0; i < 60; i++) {
            Check.due("guess(" + i + ", 0)", x.guess(i, 0), i < 59 ? i + 2 : 62);
        }
        x.key('b');
        counts(x, 60, 1);
    }

    private static void keysAroundTook() {
        FarTypewriter x = Check.opened(0, 1, 50);
        Check.type(x, "ab");
        x.tick();
        Check.type(x, "cd");
        x.carry(0, 0, 0, 0);
        Check.due("TOOK", x.state(1, 0), 2);
        settled(x, 0, 0, 0);
        x.tick();
        x.carry(1, 0, 2, 0);
        settled(x, 2, 0, 0);
        counts(x, 2, 1);
        Check.due("the key above TOOK", x.guess(0, 0), 3);
        x.carry(1, 0, 0, 0);
        settled(x, 2, 0, 0);
        nothingIsSettledByTook0();
        noneIsLeftToSettle();
    }

    /** All GUESSES went; the STATES behind that settle none. */
    private static void noneIsLeftToSettle() {
        FarTypewriter x = Check.opened(0, 1, 50);
        Check.type(x, "abc");
        echo(x);
        settled(x, 3, 0, 0);
        for (int number = 2; number <= 4; number++) {
            x.write('d');
            x.round();
            Check.due("near NEWEST", x.state(0, 2), number);
            settled(x, 3, 0, 0);
            counts(x, 0, 1);
        }
    }

    private static void nothingIsSettledByTook0() {
        FarTypewriter x = Check.opened(0, 1, 50);
        x.key('a');
        x.write('x');
        x.tick();
        x.carry(1, 0, 0, 0);
        Check.due("near NEWEST", x.state(0, 2), 1);
        settled(x, 0, 0, 0);
        counts(x, 1, 1);
    }

    private static void letterInItsCell() {
        FarTypewriter x = at(0, 0, 0);
        x.pen(3);
        x.key('a');
        echo(x);
        settled(x, 1, 0, 0);
        FarTypewriter last = at(0, 6, 23);
        last.key('a');
        echo(last);
        settled(last, 1, 0, 0);
        FarTypewriter scrolled = at(0, 7, 23);
        scrolled.key('a');
        echo(scrolled);
        Check.row(scrolled, 0, 6, 23, "a");
        settled(scrolled, 0, 1, 1);
        FarTypewriter space = at(0, 7, 23);
        space.key(' ');
        echo(space);
        settled(space, 1, 0, 0);
        theCursorDoesNotMatter();
    }

    private static void theCursorDoesNotMatter() {
        FarTypewriter x = at(0, 2, 2);
        x.key('a');
        x.tick();
        x.carry(0, 0, 0, 0);
        x.move(5, 5);
        x.tick();
        x.carry(1, 0, 0, 0);
        settled(x, 1, 0, 0);
        Check.cursor(x, 3, 5, 5);
    }

    /** A step is the last key that was taken, or one that another followed. */
    private static void step(int followers, int row, int column, boolean right) {
        FarTypewriter x = at(3, 4, 4);
        x.key(RIGHT_KEY);
        for (int i = 0; i < followers; i++) {
            x.key(13);
        }
        x.tick();
        x.carry(0, x.count(14) - 1, 0, 0);
        x.move(row, column);
        x.tick();
        x.carry(1, x.count(15) - 1, 0, 0);
        settled(x, right ? 1 : 0, right ? 0 : 1, right ? 0 : 1);
    }

    private static void cursorOrKeyBelowTook() {
        step(0, 4, 5, true);
        step(0, 4, 4, false);
        step(0, 4, 6, false);
        step(0, 3, 5, false);
        step(1, 4, 4, true);
        step(1, 0, 0, true);
    }

    private static void confirmedRises() {
        FarTypewriter x = Check.opened(0, 1, 50);
        Check.due("CONFIRMED", x.count(CONFIRMED), 0);
        press(x, 13, 1, 'a');
        Check.due("AGE of it", x.guess(0, 1), 3);
        Check.due("CONFIRMED", x.count(CONFIRMED), 0);
        echo(x);
        Check.due("CONFIRMED", x.count(CONFIRMED), 3);
        counts(x, 0, 3);
        x.key('b');
        echo(x);
        Check.due("the same AGE", x.count(CONFIRMED), 3);
        press(x, RIGHT_KEY, 8, 'c');
        echo(x);
        Check.due("the AGE of the one that was WRONG is not CONFIRMED", x.count(CONFIRMED), 3);
    }

    private static void allOthersLeftGo() {
        FarTypewriter alone = at(3, 0, 0);
        alone.key('a');
        echo(alone);
        settled(alone, 0, 1, 1);
        counts(alone, 0, 2);
        FarTypewriter x = at(1, 0, 21);
        Check.type(x, "abc");
        x.tick();
        Check.type(x, "de");
        counts(x, 5, 4);
        x.carry(0, 0, 0, 0);
        x.tick();
        x.carry(1, x.count(15) - 1, 0, 0);
        settled(x, 2, 1, 3);
        counts(x, 0, 5);
        Check.due("CONFIRMED", x.count(CONFIRMED), 1);
        x.key('f');
        Check.each("guess(0, what), what", what -> x.guess(0, what), 6, 5, 0, 23, 'f', 0, 0, 23);
    }

    private static void agesAroundConfirmed() {
        FarTypewriter x = Check.opened(0, 1, 50);
        x.key('a');
        Check.due("AGE 1, CONFIRMED 0", x.guess(0, 5), 0);
        echo(x);
        Check.type(x, "b");
        x.key(13);
        Check.type(x, "c");
        Check.due("AGE 1, CONFIRMED 1", x.guess(0, 5), 1);
        Check.due("AGE 2, CONFIRMED 1", x.guess(1, 5), 0);
        Check.row(x, 2, 0, 0, "ab ");
        Check.row(x, 3, 0, 0, "abc");
        FarTypewriter y = Check.opened(0, 1, 50);
        press(y, 13, 1, 'a');
        y.tick();
        press(y, 'b', 8, 'c');
        y.carry(0, 0, 0, 0);
        y.tick();
        y.carry(1, 0, 0, 0);
        Check.due("AGE 3, CONFIRMED 3", y.guess(0, 5), 1);
        Check.due("AGE 4, CONFIRMED 3", y.guess(1, 5), 0);
    }

    private static void whenTheProgramWasPass() {
        FarTypewriter x = Check.opened(2, 1, 50);
        int age = 1;
        for (int k : new int[] {'a', RIGHT_KEY, LEFT_KEY, 13, 8, 1, 2}) {
            x.key(k);
            age++;
            counts(x, 0, age);
        }
        x.key(5);
        counts(x, 0, age);
        x.program(1);
        x.key('b');
        counts(x, 1, age);
        x.program(2);
        counts(x, 1, age);
        x.key('c');
        counts(x, 1, age + 1);
        FarTypewriter full = with60Guesses();
        full.program(2);
        full.key('b');
        counts(full, 60, 3);
    }

    private static void takenBack() {
        FarTypewriter x = at(3, 0, 0);
        press(x, RIGHT_KEY, LEFT_KEY, 'a', 'b', 'c');
        echo(x);
        settled(x, 2, 1, 3);
        counts(x, 0, 2);
    }
}
