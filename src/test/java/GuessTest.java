/** Promises 19, and of 4, 14, 15 and 21 what is told of GUESSES. */
public final class GuessTest {
    private static final char RIGHT = 3;
    private static final char LEFT = 4;

    public static void main(String[] args) {
        letters();
        stepping();
        othersBeginAnAge();
        atColumn23();
        atMost60();
        theKeysOfPassAreNotGuessed();
        shown();
        rightOnes();
        wrongOnes();
        wrongTakesBackThoseNotYetTold();
        steppingIsSettled();
        laterKeysCoverEarlierSteps();
        theMarkDoesNotMatter();
        anOlderAgeDoesNotLowerConfirmed();
        asking();
        Check.finish();
    }

    private static void is(FarTypewriter x, int i, int... want) {
        for (int what = 0; what < want.length; what++) {
            Check.due("guess(" + i + ", " + what + ")", x.guess(i, what), want[what]);
        }
    }

    private static void letters() {
        FarTypewriter x = Check.opened(0, 1, 1);
        x.move(3, 20);
        x.round();
        Check.type(x, "ab");
        is(x, 0, 1, 1, 3, 20, 'a', 0, 3, 21);
        is(x, 1, 2, 1, 3, 21, 'b', 0, 3, 22);
        is(x, 2, -2);
        Check.row(x, 3, 3, 19, " ab ");
        Check.due("mark of a GUESS", x.cell(3, 3, 20, 1), 3);
        Check.due("mark beside it", x.cell(3, 3, 22, 1), 0);
        Check.row(x, 2, 3, 19, "    ");
        Check.row(x, 0, 3, 19, "    ");
        Check.cursor(x, 3, 3, 22);
        Check.cursor(x, 2, 3, 20);
        Check.cursor(x, 0, 3, 20);
    }

    private static void stepping() {
        FarTypewriter x = new FarTypewriter();
        x.key(LEFT);
        Check.due("off the row: none", x.count(11), 0);
        Check.due("and no AGE", x.count(13), 1);
        x.key(RIGHT);
        is(x, 0, 2, 1, -1, -1, -1, 0, 0, 1);
        x.key('a');
        is(x, 1, 3, 1, 0, 1, 'a', 0, 0, 2);
        x.key(LEFT);
        is(x, 2, 4, 1, -1, -1, -1, 0, 0, 1);
        x.key('b');
        is(x, 3, 5, 1, 0, 1, 'b', 0, 0, 2);
        Check.row(x, 3, 0, 0, " b ");
        Check.cursor(x, 3, 0, 2);
        FarTypewriter y = Check.opened(0, 1, 1);
        y.move(2, 23);
        y.round();
        y.key(RIGHT);
        Check.due("off the row: none", y.count(11), 0);
        Check.due("and no AGE", y.count(13), 1);
    }

    private static void othersBeginAnAge() {
        FarTypewriter x = new FarTypewriter();
        int[] others = {13, 8, 1, 2};
        for (int i = 0; i < others.length; i++) {
            x.key(others[i]);
            Check.due("GUESSES", x.count(11), 0);
            Check.due("AGE", x.count(13), 2 + i);
        }
        x.key(5);
        x.key(127);
        Check.due("what is no key begins no AGE", x.count(13), 5);
        x.key('a');
        is(x, 0, 5, 5, 0, 0, 'a', 0, 0, 1);
    }

    private static void atColumn23() {
        FarTypewriter x = Check.opened(0, 1, 1);
        x.move(1, 23);
        x.round();
        Check.type(x, "ab");
        is(x, 0, 1, 1, 1, 23, 'a', 0, 1, 23);
        is(x, 1, 2, 2, 1, 23, 'b', 0, 1, 23);
        Check.due("AGE", x.count(13), 3);
        Check.row(x, 3, 1, 23, "b");
    }

    private static void atMost60() {
        FarTypewriter x = new FarTypewriter();
        for (int i = 0; i < 60; i++) {
            x.key('a');
        }
        Check.due("GUESSES", x.count(11), 60);
        Check.due("AGE", x.count(13), 38);
        Check.due("key", x.key('b'), 61);
        Check.due("key", x.key(LEFT), 62);
        Check.due("GUESSES", x.count(11), 60);
        Check.due("AGE", x.count(13), 38);
        Check.row(x, 3, 0, 23, "a");
        x.key(13);
        Check.due("another key begins an AGE", x.count(13), 39);
    }

    private static void theKeysOfPassAreNotGuessed() {
        FarTypewriter x = Check.opened(2, 1, 1);
        int[] keys = {'a', RIGHT, LEFT, 13, 8, 1, 2};
        for (int i = 0; i < keys.length; i++) {
            x.key(keys[i]);
            Check.due("GUESSES", x.count(11), 0);
            Check.due("AGE", x.count(13), 2 + i);
        }
        x.program(0);
        x.key('b');
        Check.due("GUESSES", x.count(11), 1);
        x.program(2);
        Check.due("those made stay", x.count(11), 1);
    }

    private static void shown() {
        FarTypewriter x = Check.opened(0, 1, 50);
        x.key('a');
        Check.due("SHOWN", x.guess(0, 5), 0);
        Check.rounds(x, 3);
        Check.due("CONFIRMED", x.count(12), 1);
        x.key('b');
        x.key(RIGHT);
        Check.due("SHOWN", x.guess(0, 5), 1);
        x.key(13);
        x.key('c');
        Check.due("SHOWN", x.guess(2, 5), 0);
        Check.row(x, 2, 0, 0, "ab  ");
        Check.row(x, 3, 0, 0, "ab c");
        Check.due("mark of the echo", x.cell(2, 0, 0, 1), 0);
        Check.due("mark of the GUESS", x.cell(2, 0, 1, 1), 3);
        Check.cursor(x, 2, 0, 3);
        Check.cursor(x, 3, 0, 4);
        Check.cursor(x, 0, 0, 1);
    }

    private static void rightOnes() {
        FarTypewriter x = Check.opened(0, 1, 50);
        Check.type(x, "abc");
        x.tick();
        Check.type(x, "de");
        x.carry(0, 0, 0, 0);
        x.tick();
        x.carry(1, 0, 0, 0);
        Check.due("RIGHT", x.count(7), 3);
        Check.due("GUESSES", x.count(11), 2);
        is(x, 0, 4, 1, 0, 3, 'd', 1, 0, 4);
        is(x, 1, 5, 1, 0, 4, 'e', 1, 0, 5);
        Check.due("WRONG", x.count(8), 0);
        Check.due("taken back", x.count(9), 0);
        Check.due("AGE", x.count(13), 1);
        Check.row(x, 2, 0, 0, "abcde ");
    }

    private static void wrongOnes() {
        FarTypewriter x = Check.opened(1, 1, 50);
        x.key('a');
        x.key(13);
        Check.type(x, "bc");
        Check.rounds(x, 2);
        Check.due("RIGHT", x.count(7), 1);
        Check.due("WRONG", x.count(8), 1);
        Check.due("taken back", x.count(9), 2);
        Check.due("GUESSES", x.count(11), 0);
        Check.due("CONFIRMED", x.count(12), 1);
        Check.due("AGE", x.count(13), 3);
        Check.row(x, 2, 0, 0, "a  ");
        Check.row(x, 2, 1, 0, ">bc ");
        Check.cursor(x, 3, 1, 3);
    }

    private static void wrongTakesBackThoseNotYetTold() {
        FarTypewriter x = Check.opened(3, 1, 50);
        x.key('a');
        x.tick();
        Check.type(x, "bcd");
        x.carry(0, 0, 0, 0);
        x.tick();
        x.carry(1, 0, 0, 0);
        Check.due("WRONG", x.count(8), 1);
        Check.due("taken back", x.count(9), 4);
        Check.due("GUESSES", x.count(11), 0);
        Check.due("AGE", x.count(13), 2);
        x.key('e');
        is(x, 0, 5, 2, 7, 0, 'e', 0, 7, 1);
    }

    private static void steppingIsSettled() {
        FarTypewriter x = Check.opened(0, 1, 50);
        x.key(RIGHT);
        Check.rounds(x, 2);
        Check.due("RIGHT", x.count(7), 1);
        Check.due("CONFIRMED", x.count(12), 1);
        x.program(3);
        x.key(RIGHT);
        Check.rounds(x, 2);
        Check.due("the cursor is elsewhere: WRONG", x.count(8), 1);
        Check.due("taken back", x.count(9), 1);
        Check.due("AGE", x.count(13), 2);
    }

    private static void laterKeysCoverEarlierSteps() {
        FarTypewriter x = Check.opened(0, 1, 50);
        x.key(RIGHT);
        x.key('a');
        Check.rounds(x, 2);
        Check.due("RIGHT", x.count(7), 2);
        Check.due("WRONG", x.count(8), 0);
        x.program(3);
        x.key(LEFT);
        x.key(RIGHT);
        x.key(LEFT);
        Check.rounds(x, 2);
        Check.due("those below TOOK are RIGHT", x.count(7), 4);
        Check.due("the last is WRONG", x.count(8), 1);
    }

    private static void theMarkDoesNotMatter() {
        FarTypewriter x = Check.opened(0, 1, 50);
        x.pen(2);
        x.key('a');
        Check.rounds(x, 2);
        Check.due("RIGHT", x.count(7), 1);
        Check.due("mark", x.cell(2, 0, 0, 1), 2);
    }

    /** A step left of an AGE that is CONFIRMED no more leaves CONFIRMED as it is. */
    private static void anOlderAgeDoesNotLowerConfirmed() {
        FarTypewriter x = Check.opened(0, 1, 50);
        x.key(13);
        x.key(1);
        x.key('a');
        Check.due("AGE", x.guess(0, 1), 3);
        Check.rounds(x, 2);
        Check.due("CONFIRMED", x.count(12), 3);
        x.key('b');
        Check.rounds(x, 2);
        Check.due("CONFIRMED", x.count(12), 3);
        Check.due("AGE", x.count(13), 3);
    }

    private static void asking() {
        FarTypewriter x = new FarTypewriter();
        x.key('a');
        int[] wrong = {Integer.MIN_VALUE, -1, 8, Integer.MAX_VALUE};
        for (int ask : wrong) {
            Check.due("guess(0, " + ask + ")", x.guess(0, ask), -2);
            Check.due("guess(" + ask + ", 0)", x.guess(ask, 0), -2);
        }
        Check.due("guess(1, 0)", x.guess(1, 0), -2);
    }
}
