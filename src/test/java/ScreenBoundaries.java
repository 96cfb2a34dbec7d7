/** The edges of a SCREEN: Terms I, and promises 5 to 9 and 14 to 16. */
final class ScreenBoundaries {
    private static final int MIN = Integer.MIN_VALUE;
    private static final int MAX = Integer.MAX_VALUE;
    private static final String ROW_OF_BLANKS = " ".repeat(24);

    private ScreenBoundaries() { }

    static void all() {
        Doc.term("I", 14, "A SCREEN has 8 rows of 24 CELLS", ScreenBoundaries::rowsAndColumns);
        Doc.term("I", 5, "each a letter (32 .. 126)", ScreenBoundaries::leastAndGreatestLetter);
        Doc.term("I", 9, "and a mark (0 .. 3)", ScreenBoundaries::leastAndGreatestMark);
        Doc.term("I", 14, "at first all is BLANK, the cursor 0 0", ScreenBoundaries::emptyAtFirst);
        Doc.term("I", 9, "the PEN (0 at first)", ScreenBoundaries::penAtFirst);
        Doc.term("I", 5, "in column 23 then NEWLINE, else one column on.", ScreenBoundaries::lastColumn);
        Doc.term("I", 5, "NEWLINE: column 0 of the next row; in row 7 SCROLL by 1, and column 0.",
            ScreenBoundaries::lastRow);
        Doc.term("I", 8, "SCROLL by n: the first n rows go, n BLANK ones come below.",
            ScreenBoundaries::everyScroll);
        Doc.term("I", 5, "BACK: in column 0 nothing; else one column back, and the CELL there is BLANK.",
            ScreenBoundaries::back);
        Doc.promise(5, "a LETTER, or 13 NEWLINE, 8 BACK: true; false when it is none.", ScreenBoundaries::noSign);
        Doc.promise(6, "The far cursor is there: true; false when there is no such CELL.",
            ScreenBoundaries::noSuchPlace);
        Doc.promise(7, "A far row is BLANK: true; false when there is none such.", ScreenBoundaries::noSuchRow);
        Doc.promise(8, "The far SCREEN SCROLLS by 1 .. 8", ScreenBoundaries::leastAndGreatestScroll);
        Doc.promise(8, "(the cursor stays)", ScreenBoundaries::cursorStays);
        Doc.promise(8, "true; false for others.", ScreenBoundaries::noSuchScroll);
        Doc.promise(9, "The far PEN's mark: what it was; NONE when that can't be.", ScreenBoundaries::noSuchMark);
        Doc.promise(14, "what 0 letter, 1 mark (of a GUESS 3).", ScreenBoundaries::markOfAGuess);
        Doc.promise(14, "the near one with the GUESSES that are SHOWN laid on it (2), or all of them (3)",
            ScreenBoundaries::guessesOnOneCell);
        Doc.promise(14, "NONE when there is none such.", ScreenBoundaries::noSuchCell);
        Doc.promise(15, "(of 2, 3 that of the last GUESS that is laid on)", ScreenBoundaries::noneLaidOn);
        Doc.promise(15, "NONE for others.", ScreenBoundaries::noSuchCursor);
        Doc.promise(16, "Whether near and far SCREEN are alike, cursors too.", ScreenBoundaries::almostAlike);
    }

    private static void rowsAndColumns() {
        FarTypewriter x = new FarTypewriter();
        for (int row : new int[] {-1, 0, 7, 8}) {
            for (int column : new int[] {-1, 0, 23, 24}) {
                boolean there = row >= 0 && row <= 7 && column >= 0 && column <= 23;
                for (int end = 0; end < 4; end++) {
                    String call = "cell(" + end + ", " + row + ", " + column + ", 0)";
                    Check.due(call, x.cell(end, row, column, 0), there ? 32 : -1);
                }
            }
        }
    }

    private static void leastAndGreatestLetter() {
        FarTypewriter x = new FarTypewriter();
        x.write('a');
        x.move(0, 0);
        Check.due("write(32)", x.write(32), true);
        Check.due("write(126)", x.write(126), true);
        Check.due("write(31)", x.write(31), false);
        Check.due("write(127)", x.write(127), false);
        Check.due("the least", x.cell(1, 0, 0, 0), 32);
        Check.due("the greatest", x.cell(1, 0, 1, 0), 126);
        Check.cursor(x, 1, 0, 2);
    }

    private static void leastAndGreatestMark() {
        FarTypewriter x = Check.opened(0, 1, 1);
        x.pen(3);
        x.write(126);
        x.pen(0);
        x.write(126);
        x.round();
        for (int end = 0; end < 4; end++) {
            Check.due("the greatest mark at end " + end, x.cell(end, 0, 0, 1), 3);
            Check.due("the letter with it", x.cell(end, 0, 0, 0), 126);
            Check.due("the least mark at end " + end, x.cell(end, 0, 1, 1), 0);
        }
    }

    private static void emptyAtFirst() {
        for (int end = 0; end < 4; end++) {
            FarTypewriter x = new FarTypewriter();
            Check.cursor(x, end, 0, 0);
            for (int i = 0; i < 8 * 24; i++) {
                Check.due("letter " + i + " of end " + end, x.cell(end, i / 24, i % 24, 0), 32);
                Check.due("mark " + i + " of end " + end, x.cell(end, i / 24, i % 24, 1), 0);
            }
        }
    }

    private static void penAtFirst() {
        FarTypewriter x = new FarTypewriter();
        x.write('a');
        Check.due("mark", x.cell(1, 0, 0, 1), 0);
        Check.due("pen(2)", x.pen(2), 0);
        x.open(0, 1, 1);
        x.write('a');
        Check.due("mark behind open()", x.cell(1, 0, 0, 1), 0);
        Check.due("pen(1) behind open()", x.pen(1), 0);
    }

    private static void lastColumn() {
        FarTypewriter x = new FarTypewriter();
        x.move(3, 22);
        x.write('a');
        Check.cursor(x, 1, 3, 23);
        x.write('b');
        Check.cursor(x, 1, 4, 0);
        Check.row(x, 1, 3, 21, " ab");
        Check.row(x, 1, 4, 0, " ");
        x.move(7, 23);
        x.write('c');
        Check.row(x, 1, 6, 22, " c");
        Check.row(x, 1, 7, 0, ROW_OF_BLANKS);
        Check.row(x, 1, 2, 21, " ab");
        Check.cursor(x, 1, 7, 0);
    }

    private static void lastRow() {
        FarTypewriter x = new FarTypewriter();
        x.write('a');
        x.move(6, 5);
        x.write(13);
        Check.cursor(x, 1, 7, 0);
        Check.row(x, 1, 0, 0, "a");
        x.write('b');
        x.write(13);
        Check.cursor(x, 1, 7, 0);
        Check.row(x, 1, 0, 0, " ");
        Check.row(x, 1, 6, 0, "b");
        Check.row(x, 1, 7, 0, ROW_OF_BLANKS);
    }

    /** Rows that tell themselves apart in their first and their last CELL, with mark 1. */
    private static FarTypewriter lettered() {
        FarTypewriter x = new FarTypewriter();
        x.pen(1);
        for (int row = 0; row < 8; row++) {
            x.move(row, 0);
            x.write('a' + row);
            x.move(row, 22);
            x.write('A' + row);
        }
        return x;
    }

    private static void everyScroll() {
        for (int n = 1; n <= 8; n++) {
            FarTypewriter x = lettered();
            Check.due("scroll(" + n + ")", x.scroll(n), true);
            for (int row = 0; row < 8; row++) {
                boolean stays = row + n < 8;
                String what = "row " + row + " behind scroll(" + n + ")";
                Check.due(what, x.cell(1, row, 0, 0), stays ? 'a' + row + n : 32);
                Check.due(what, x.cell(1, row, 22, 0), stays ? 'A' + row + n : 32);
                Check.due(what, x.cell(1, row, 0, 1), stays ? 1 : 0);
                Check.due(what, x.cell(1, row, 1, 1), 0);
            }
        }
    }

    private static void back() {
        FarTypewriter x = new FarTypewriter();
        x.pen(2);
        Check.print(x, "x".repeat(48));
        x.move(1, 0);
        Check.due("write(8) in column 0", x.write(8), true);
        Check.cursor(x, 1, 1, 0);
        Check.row(x, 1, 0, 0, "x".repeat(24));
        Check.row(x, 1, 1, 0, "x".repeat(24));
        x.move(1, 1);
        x.write(8);
        Check.cursor(x, 1, 1, 0);
        Check.row(x, 1, 1, 0, " xx");
        Check.due("the mark there", x.cell(1, 1, 0, 1), 0);
        x.move(0, 23);
        x.write(8);
        Check.cursor(x, 1, 0, 22);
        Check.row(x, 1, 0, 21, "x x");
    }

    private static void noSign() {
        FarTypewriter x = lettered();
        x.move(3, 3);
        for (int sign : new int[] {MIN, -1, 0, 1, 2, 3, 4, 5, 7, 9, 10, 12, 14, 31, 127, 128, 256 + 65, MAX}) {
            Check.refused(x, "write(" + sign + ")", () -> x.write(sign));
        }
        for (int sign : new int[] {8, 13, 32, 126}) {
            Check.due("write(" + sign + ")", x.write(sign), true);
        }
    }

    private static void noSuchPlace() {
        FarTypewriter x = lettered();
        x.move(2, 3);
        int[][] none = {{-1, 0}, {8, 0}, {0, -1}, {0, 24}, {-1, 23}, {8, 23}, {7, -1}, {7, 24}, {-1, 24},
            {MIN, 0}, {MAX, 0}, {0, MIN}, {0, MAX}};
        for (int[] place : none) {
            Check.refused(x, "move(" + place[0] + ", " + place[1] + ")", () -> x.move(place[0], place[1]));
        }
        for (int[] place : new int[][] {{0, 0}, {0, 23}, {7, 0}, {7, 23}}) {
            Check.due("move(" + place[0] + ", " + place[1] + ")", x.move(place[0], place[1]), true);
            Check.cursor(x, 1, place[0], place[1]);
        }
    }

    private static void noSuchRow() {
        FarTypewriter x = lettered();
        x.move(7, 23);
        for (int row : new int[] {MIN, -1, 8, MAX}) {
            Check.refused(x, "wipe(" + row + ")", () -> x.wipe(row));
        }
        for (int row : new int[] {0, 7}) {
            Check.due("wipe(" + row + ")", x.wipe(row), true);
            Check.row(x, 1, row, 0, ROW_OF_BLANKS);
            Check.due("its first mark", x.cell(1, row, 0, 1), 0);
            Check.due("its last mark", x.cell(1, row, 22, 1), 0);
        }
        Check.row(x, 1, 1, 0, "b");
        Check.row(x, 1, 6, 22, "G");
        Check.cursor(x, 1, 7, 23);
    }

    private static void leastAndGreatestScroll() {
        FarTypewriter x = lettered();
        Check.due("scroll(1)", x.scroll(1), true);
        Check.row(x, 1, 0, 0, "b");
        Check.row(x, 1, 6, 0, "h");
        Check.row(x, 1, 7, 0, ROW_OF_BLANKS);
        Check.due("scroll(8)", x.scroll(8), true);
        for (int row = 0; row < 8; row++) {
            Check.row(x, 1, row, 0, ROW_OF_BLANKS);
        }
    }

    private static void cursorStays() {
        for (int[] place : new int[][] {{0, 0}, {7, 23}, {3, 11}}) {
            for (int n = 1; n <= 8; n++) {
                FarTypewriter x = new FarTypewriter();
                x.move(place[0], place[1]);
                x.scroll(n);
                Check.cursor(x, 1, place[0], place[1]);
            }
        }
    }

    private static void noSuchScroll() {
        FarTypewriter x = lettered();
        for (int n : new int[] {MIN, -8, -1, 0, 9, 16, MAX}) {
            Check.refused(x, "scroll(" + n + ")", () -> x.scroll(n));
        }
    }

    private static void noSuchMark() {
        FarTypewriter x = new FarTypewriter();
        Check.due("pen(3)", x.pen(3), 0);
        for (int mark : new int[] {MIN, -1, 4, 256, MAX}) {
            Check.refused(x, "pen(" + mark + ")", () -> x.pen(mark), -1);
        }
        x.write('a');
        Check.due("the mark of before", x.cell(1, 0, 0, 1), 3);
        Check.due("pen(0)", x.pen(0), 3);
        Check.due("pen(0)", x.pen(0), 0);
    }

    private static void markOfAGuess() {
        FarTypewriter x = Check.opened(0, 1, 50);
        x.pen(1);
        x.write('b');
        x.move(0, 0);
        x.round();
        x.key('b');
        int[] marks = {1, 1, 1, 3};
        Check.each("mark at end", end -> x.cell(end, 0, 0, 1), marks);
        Check.each("letter at end", end -> x.cell(end, 0, 0, 0), 'b', 'b', 'b', 'b');
    }

    /** An older GUESS that is SHOWN and a newer one that is not, both for the same CELL. */
    private static void guessesOnOneCell() {
        FarTypewriter x = Check.opened(0, 1, 50);
        x.key('a');
        Check.rounds(x, 2);
        Check.type(x, "bc");
        x.key(4);
        x.key(4);
        x.key('d');
        x.key(13);
        x.key(4);
        Check.type(x, "ef");
        Check.row(x, 0, 0, 0, "a   ");
        Check.row(x, 2, 0, 0, "adc ");
        Check.row(x, 3, 0, 0, "aef ");
        Check.cursor(x, 2, 0, 2);
        Check.cursor(x, 3, 0, 3);
        Check.due("what is typed first lies below", x.guess(0, 4), 'b');
    }

    private static void noSuchCell() {
        FarTypewriter x = new FarTypewriter();
        int[][] none = {{-1, 0, 0, 0}, {4, 0, 0, 0}, {0, 0, 0, -1}, {0, 0, 0, 2}, {3, 7, 23, 2}, {3, 7, 23, -1},
            {0, -1, 0, 0}, {1, 8, 0, 0}, {2, 0, -1, 0}, {3, 0, 24, 0}, {1, 6, 24, 1}, {1, 1, -1, 1},
            {MIN, 0, 0, 0}, {MAX, 0, 0, 0}, {0, MIN, 0, 0}, {0, MAX, 0, 0}, {0, 0, MIN, 0}, {0, 0, MAX, 0},
            {0, 0, 0, MIN}, {0, 0, 0, MAX}};
        for (int[] ask : none) {
            String call = "cell(" + ask[0] + ", " + ask[1] + ", " + ask[2] + ", " + ask[3] + ")";
            Check.refused(x, call, () -> x.cell(ask[0], ask[1], ask[2], ask[3]), -1);
        }
    }

    private static void noneLaidOn() {
        FarTypewriter x = Check.opened(0, 1, 50);
        x.move(5, 6);
        x.round();
        Check.cursor(x, 2, 5, 6);
        Check.cursor(x, 3, 5, 6);
        x.key('a');
        Check.cursor(x, 2, 5, 6);
        Check.cursor(x, 3, 5, 7);
        Check.rounds(x, 2);
        x.key('b');
        Check.cursor(x, 0, 5, 7);
        Check.cursor(x, 2, 5, 8);
        x.key(1);
        x.key('c');
        Check.cursor(x, 2, 5, 8);
        Check.cursor(x, 3, 5, 9);
    }

    private static void noSuchCursor() {
        FarTypewriter x = new FarTypewriter();
        int[][] none = {{-1, 0}, {4, 0}, {0, -1}, {0, 2}, {3, 2}, {3, -1}, {MIN, 0}, {MAX, 0}, {0, MIN}, {0, MAX}};
        for (int[] ask : none) {
            Check.refused(x, "cursor(" + ask[0] + ", " + ask[1] + ")", () -> x.cursor(ask[0], ask[1]), -1);
        }
    }

    private static void almostAlike() {
        FarTypewriter x = Check.opened(3, 1, 50);
        Check.due("two that are empty", x.alike(), true);
        x.move(0, 1);
        Check.due("another column", x.alike(), false);
        x.move(1, 0);
        Check.due("another row", x.alike(), false);
        x.key('q');
        Check.rounds(x, 2);
        Check.due("told", x.alike(), true);
        x.move(7, 22);
        x.write('p');
        x.move(7, 0);
        Check.due("another letter", x.alike(), false);
        x.move(7, 22);
        x.write('q');
        x.move(7, 0);
        Check.due("the same letter again", x.alike(), true);
        x.pen(1);
        x.move(7, 22);
        x.write('q');
        x.move(7, 0);
        Check.due("another mark alone", x.alike(), false);
    }
}
