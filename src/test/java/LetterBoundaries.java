/** The edges of what LETTERS hold: Terms III, and promise 20. */
final class LetterBoundaries {
    private static final int MIN = Integer.MIN_VALUE;
    private static final int MAX = Integer.MAX_VALUE;

    /* The SUMS of 75 1 0 0 0 0 0 0, of 75 1 0 0 0 1 0 0 97 and of 83 1 0 0 0 1 0 0 0 1 0. */
    private static final int NEAR_SUM = 28342;
    private static final int KEY_SUM = 56717;
    private static final int FAR_SUM = 29951;

    private LetterBoundaries() { }

    static void all() {
        Doc.term("III", 20, "BYTES of numbers: two, the higher first.", LetterBoundaries::numbersAround256);
        Doc.term("III", 20, "A LETTER of the near end: 75, its ADDRESS (one byte), KNOWN, KEYS, NEWEST's number, "
            + "the keys behind KNOWN, SUM.", LetterBoundaries::noKeysBehindKnown);
        Doc.term("III", 20, "83, the ADDRESS that it is for, SURE, NEWEST's number, its TOOK, row and column of its "
            + "cursor (a byte each)", LetterBoundaries::lastPlaceAndAddress);
        Doc.term("III", 20, "DIFF from its STATE SURE to NEWEST, SUM.", LetterBoundaries::emptyAndGreatestDiff);
        Doc.term("III", 20, "SUM: two bytes: c, 1 at first, for each byte ahead c = (31 c + it) mod 65521.",
            LetterBoundaries::sums);
        Doc.term("III", 20, "DIFF from a to b: a byte k, 0 .. 8;", LetterBoundaries::everyShift);
        Doc.term("III", 20, "then for each row, from above, in which b is not a SCROLLED by k:",
            LetterBoundaries::firstAndLastRow);
        Doc.term("III", 20, "the first and the last column that differ (a byte each)",
            LetterBoundaries::firstAndLastColumn);
        Doc.term("III", 20, "form 1, if all of b's CELLS from that to that are alike: letter, mark;",
            LetterBoundaries::alikeCells);
        Doc.term("III", 20, "else form 0: letter and mark of each of them.", LetterBoundaries::almostAlikeCells);
        Doc.term("III", 20, "Of the nine k that with the fewest bytes", LetterBoundaries::fewerBytes);
        Doc.term("III", 20, "of several the least.", LetterBoundaries::asFewBytes);
        Doc.promise(20, "0 its bytes, 1 + i byte i of it.", LetterBoundaries::firstAndLastByte);
        Doc.promise(20, "NONE when there is none such.", LetterBoundaries::noSuchByte);
    }

    /** The bytes of the DIFF from STATE 1 to 2, with the cursor at 0 0. */
    private static void diff(FarTypewriter x, int... want) {
        int[] all = new int[10 + want.length];
        int[] head = {83, 1, 0, 1, 0, 2, 0, 0, 0, 0};
        System.arraycopy(head, 0, all, 0, 10);
        System.arraycopy(want, 0, all, 10, want.length);
        x.move(0, 0);
        x.tick();
        Check.bytes(x, 1, 0, all);
        x.carry(1, 0, 0, 0);
        Check.due("alike() with the DIFF laid on", x.alike(), true);
    }

    private static void put(FarTypewriter x, int row, int column, String signs) {
        x.move(row, column);
        Check.print(x, signs);
    }

    private static void numbersAround256() {
        for (int keys : new int[] {1, 255, 256, 257}) {
            FarTypewriter x = Check.opened(2, 1, 1);
            for (int i = 0; i < keys; i++) {
                x.key('a');
            }
            x.tick();
            twoBytes(x, 0, "KEYS", 4, keys);
            x.carry(0, 0, 0, 0);
            x.tick();
            twoBytes(x, 1, "TOOK", 6, keys);
            x.round();
            x.tick();
            twoBytes(x, 0, "KNOWN", 2, keys);
        }
        statesAround256();
    }

    private static void twoBytes(FarTypewriter x, int line, String what, int i, int number) {
        Check.due(what + " " + number + ", the higher", x.letter(line, 0, 1 + i), number / 256);
        Check.due(what + " " + number + ", the lower", x.letter(line, 0, 2 + i), number % 256);
    }

    /** So many STATES take more calls than the 512 that are promised; the class goes on all the same. */
    private static void statesAround256() {
        FarTypewriter x = Check.opened(0, 1, 1);
        for (int number = 1; number <= 258; number++) {
            x.write('a' + number % 26);
            x.tick();
            twoBytes(x, 1, "NEWEST", 4, number);
            twoBytes(x, 1, "SURE", 2, number - 1);
            Check.rounds(x, 2);
            Check.due("SURE", x.state(1, 1), number);
            Check.due("LINE 1", x.count(15), 0);
            Check.due("alike()", x.alike(), true);
        }
    }

    private static void noKeysBehindKnown() {
        FarTypewriter x = Check.opened(0, 1, 1);
        x.roam();
        x.tick();
        Check.bytes(x, 0, 0, 75, 2, 0, 0, 0, 0, 0, 0);
        x.key('a');
        Check.rounds(x, 2);
        Check.due("KNOWN", x.state(0, 1), 1);
        x.tick();
        Check.bytes(x, 0, 0, 75, 2, 0, 1, 0, 1, 0, 1);
        x.key('b');
        x.tick();
        Check.bytes(x, 0, 1, 75, 2, 0, 1, 0, 2, 0, 1, 'b');
        Check.due("the greatest ADDRESS", addressed(255).letter(0, 0, 2), 255);
    }

    /** The near end has this ADDRESS, and has sent it. */
    private static FarTypewriter addressed(int address) {
        FarTypewriter x = Check.opened(0, 1, 1);
        for (int i = 1; i < address; i++) {
            x.roam();
        }
        Check.due("ADDRESS", x.state(0, 6), address);
        x.tick();
        return x;
    }

    private static void lastPlaceAndAddress() {
        FarTypewriter x = addressed(255);
        x.carry(0, 0, 0, 0);
        x.move(7, 23);
        x.tick();
        Check.bytes(x, 1, 0, 83, 255, 0, 0, 0, 1, 0, 0, 7, 23, 0);
        x.carry(1, 0, 0, 0);
        Check.cursor(x, 0, 7, 23);
    }

    private static void emptyAndGreatestDiff() {
        FarTypewriter x = Check.opened(0, 1, 1);
        x.move(0, 1);
        x.tick();
        Check.due("bytes of the cursor alone", x.letter(1, 0, 0), 13);
        greatestDiff();
    }

    /** No CELL is as it was, nor is a row of one kind: PAGER alone brings a letter to the last place. */
    private static void greatestDiff() {
        FarTypewriter x = Check.opened(3, 1, 1);
        x.key('z');
        x.tick();
        x.carry(0, 0, 0, 0);
        x.move(0, 0);
        Check.print(x, "ab".repeat(95) + "a");
        x.tick();
        Check.due("bytes", x.letter(1, 0, 0), 10 + 1 + 8 * (4 + 2 * 24) + 2);
        Check.due("k", x.letter(1, 0, 11), 0);
        Check.due("the last letter", x.letter(1, 0, 10 + 1 + 8 * 52 - 1), 'z');
        x.carry(1, 0, 0, 0);
        Check.due("alike()", x.alike(), true);
        Check.row(x, 0, 7, 20, "abaz");
    }

    /** Against numbers that were worked out apart from this program. */
    private static void sums() {
        FarTypewriter x = Check.opened(0, 1, 1);
        Check.ticks(x, 4);
        Check.due("bytes of none but the head", x.letter(0, 0, 0), 10);
        Check.due("the higher", x.letter(0, 0, 9), NEAR_SUM / 256);
        Check.due("the lower", x.letter(0, 0, 10), NEAR_SUM % 256);
        x.key('a');
        x.tick();
        Check.due("the higher with a key", x.letter(0, 1, 10), KEY_SUM / 256);
        Check.due("the lower with a key", x.letter(0, 1, 11), KEY_SUM % 256);
        x.move(0, 1);
        x.tick();
        Check.due("the higher of the far end's", x.letter(1, 0, 12), FAR_SUM / 256);
        Check.due("the lower of the far end's", x.letter(1, 0, 13), FAR_SUM % 256);
    }

    private static void everyShift() {
        String[] top = {"zero ", "one ", "two ", "three ", "four ", "five ", "six ", "seven ", "     "};
        for (int k = 0; k <= 8; k++) {
            FarTypewriter x = LetterTest.told("zero\rone\rtwo\rthree\rfour\rfive\rsix\rseven");
            x.scroll(k);
            diff(x, k);
            Check.row(x, 0, 0, 0, top[k]);
        }
    }

    private static void firstAndLastRow() {
        FarTypewriter x = LetterTest.told("zero\rone\rtwo\rthree\rfour\rfive\rsix\rseven");
        put(x, 7, 0, "S");
        put(x, 0, 0, "Z");
        diff(x, 0, 0, 1, 0, 0, 'Z', 0, 7, 1, 0, 0, 'S', 0);
        FarTypewriter y = LetterTest.told("zero\rone\rtwo\rthree\rfour\rfive\rsix\rseven");
        y.scroll(1);
        put(y, 7, 0, "8");
        diff(y, 1, 7, 1, 0, 0, '8', 0);
    }

    private static void firstAndLastColumn() {
        FarTypewriter x = LetterTest.told("a");
        put(x, 2, 0, "p");
        put(x, 3, 23, "q");
        diff(x, 0, 2, 1, 0, 0, 'p', 0, 3, 1, 23, 23, 'q', 0);
        FarTypewriter y = LetterTest.told("a" + " ".repeat(10) + "-");
        put(y, 0, 0, "b");
        put(y, 0, 23, "c");
        int[] want = new int[1 + 4 + 48];
        want[4] = 23;
        for (int c = 0; c < 24; c++) {
            want[5 + 2 * c] = c == 0 ? 'b' : c == 23 ? 'c' : c == 11 ? '-' : 32;
        }
        diff(y, want);
    }

    private static void alikeCells() {
        FarTypewriter x = LetterTest.told("a");
        x.pen(3);
        put(x, 1, 5, "p");
        put(x, 2, 5, "qq");
        put(x, 3, 0, "r".repeat(24));
        diff(x, 0, 1, 1, 5, 5, 'p', 3, 2, 1, 5, 6, 'q', 3, 3, 1, 0, 23, 'r', 3);
        FarTypewriter y = LetterTest.told("a x");
        put(y, 0, 1, "xxx");
        diff(y, 0, 0, 1, 1, 3, 'x', 0);
        FarTypewriter z = LetterTest.told("abc");
        z.wipe(0);
        put(z, 0, 0, "a");
        diff(z, 0, 0, 1, 1, 2, 32, 0);
    }

    private static void almostAlikeCells() {
        FarTypewriter x = LetterTest.told("a");
        put(x, 1, 5, "qqp");
        put(x, 2, 5, "pqq");
        put(x, 3, 5, "qpq");
        diff(x, 0, 1, 0, 5, 7, 'q', 0, 'q', 0, 'p', 0, 2, 0, 5, 7, 'p', 0, 'q', 0, 'q', 0,
            3, 0, 5, 7, 'q', 0, 'p', 0, 'q', 0);
        FarTypewriter y = LetterTest.told("a");
        put(y, 1, 5, "q");
        y.pen(1);
        put(y, 1, 6, "q");
        diff(y, 0, 1, 0, 5, 6, 'q', 0, 'q', 1);
    }

    /** Unscrolled one row of 5 CELLS is told (14 bytes); scrolled by 1, two rows of one CELL (12). */
    private static void fewerBytes() {
        FarTypewriter x = LetterTest.told("  xxx\rab\ra");
        x.wipe(0);
        put(x, 0, 0, "ab");
        diff(x, 1, 1, 1, 1, 1, 'b', 0, 2, 1, 0, 0, 'a', 0);
        fewerBytesFarFromTheFirstColumn();
    }

    /** Unscrolled two rows of one CELL are told (12 bytes); scrolled by 1, one row of 3 CELLS (10). */
    private static void fewerBytesFarFromTheFirstColumn() {
        FarTypewriter x = LetterTest.told("     abx\r     aby");
        put(x, 0, 7, "y");
        put(x, 1, 7, "z");
        diff(x, 1, 1, 0, 5, 7, 'a', 0, 'b', 0, 'z', 0);
    }

    private static void asFewBytes() {
        FarTypewriter x = LetterTest.told("  xx\rab\ra");
        x.wipe(0);
        put(x, 0, 0, "ab");
        diff(x, 0, 0, 0, 0, 3, 'a', 0, 'b', 0, 32, 0, 32, 0);
        FarTypewriter w = LetterTest.told("abcx\rabcd");
        put(w, 0, 3, "d");
        put(w, 1, 3, "e");
        diff(w, 0, 0, 1, 3, 3, 'd', 0, 1, 1, 3, 3, 'e', 0);
        FarTypewriter y = LetterTest.told("b");
        y.wipe(0);
        diff(y, 1);
        FarTypewriter z = Check.opened(0, 1, 1);
        z.move(1, 1);
        z.tick();
        Check.due("all nine are alike", z.letter(1, 0, 11), 0);
    }

    private static void firstAndLastByte() {
        FarTypewriter x = Check.opened(0, 1, 1);
        x.key('a');
        x.tick();
        Check.due("letter(0, 0, 0)", x.letter(0, 0, 0), 11);
        Check.due("letter(0, 0, 1)", x.letter(0, 0, 1), 75);
        Check.due("letter(0, 0, 9)", x.letter(0, 0, 9), 'a');
        Check.due("letter(0, 0, 11)", x.letter(0, 0, 11), KEY_SUM % 256);
        Check.due("letter(0, 0, 12)", x.letter(0, 0, 12), -1);
    }

    private static void noSuchByte() {
        FarTypewriter x = Check.opened(0, 1, 1);
        Check.due("of an empty LINE 0", x.letter(0, 0, 0), -1);
        Check.due("of an empty LINE 1", x.letter(1, 0, 0), -1);
        x.key('a');
        Check.ticks(x, 2);
        int[][] none = {{-1, 0, 0}, {2, 0, 0}, {1, 0, 0}, {0, -1, 0}, {0, 2, 0}, {0, 40, 0}, {0, 0, -1}, {0, 0, 12},
            {0, 1, 13}, {MIN, 0, 0}, {MAX, 0, 0}, {0, MIN, 0}, {0, MAX, 0}, {0, 0, MIN}, {0, 0, MAX}, {-1, 0, 1},
            {2, 0, 1}};
        for (int[] ask : none) {
            String call = "letter(" + ask[0] + ", " + ask[1] + ", " + ask[2] + ")";
            Check.refused(x, call, () -> x.letter(ask[0], ask[1], ask[2]), -1);
        }
        x.carry(0, 0, 1, 0);
        Check.due("there is one less", x.letter(0, 1, 0), -1);
    }
}
