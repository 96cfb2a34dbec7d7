/** The edges of what can be opened and asked: promises 1, 2, 17 to 19 and 21, and the constant. */
final class OpenBoundaries {
    private static final int MIN = Integer.MIN_VALUE;
    private static final int MAX = Integer.MAX_VALUE;

    private OpenBoundaries() { }

    static void all() {
        Doc.head(10, "An object is used for at most 512 calls after it has been made", OpenBoundaries::all512Calls);
        Doc.constant(1, "`NONE = -1`: There is none; it is refused.", OpenBoundaries::none);
        Doc.promise(1, "Program 0, FRAME 2, AGAIN 5, ADDRESS 1.", OpenBoundaries::aNewObject);
        Doc.promise(2, "program (0 .. 3)", OpenBoundaries::programs);
        Doc.promise(2, "FRAME (1 .. 20)", OpenBoundaries::frames);
        Doc.promise(2, "AGAIN (FRAME .. 50)", OpenBoundaries::agains);
        Doc.promise(2, "true; false when these can't be.", OpenBoundaries::refusedLeavesAll);
        Doc.promise(2, "All is as at first", OpenBoundaries::allIsAsAtFirst);
        Doc.promise(17, "Of the near end (0): 0 KEYS, 1 KNOWN, 2 NEWEST's number, 3 STATES kept, 4 LAST, 5 whether "
            + "it OWES (1, 0), 6 ADDRESS, 7 the SURE told of its last LETTER that was taken.",
            OpenBoundaries::nearAtFirst);
        Doc.promise(17, "Of the far end (1): 0 TOOK, 1 SURE, 2 to 5 likewise, 6 the ADDRESS that it answers to, "
            + "7 letters that PASS has counted.", OpenBoundaries::farAtFirst);
        Doc.promise(17, "NONE for others.", OpenBoundaries::noSuchNumber);
        Doc.promise(18, "The number of the i-th STATE that an end KEEPS; NONE when there is none such.",
            OpenBoundaries::noSuchState);
        Doc.promise(19, "2 row, 3 column of its CELL (NONE without), 4 its letter (NONE)",
            OpenBoundaries::guessWithoutACell);
        Doc.promise(19, "5 whether it is SHOWN (1, 0)", OpenBoundaries::shownOrNot);
        Doc.promise(19, "-2 when there is none such.", OpenBoundaries::noSuchGuess);
        Doc.promise(21, "How many, since open():", OpenBoundaries::countsSinceOpen);
        Doc.promise(21, "14, 15 LETTERS of LINE 0, 1. NONE for others.", OpenBoundaries::noSuchCount);
    }

    private static void all512Calls() {
        FarTypewriter x = new FarTypewriter();
        for (int i = 1; i <= 512; i++) {
            Check.due("tick " + i, x.tick(), i % 20 == 0 ? 1 : 0);
        }
        FarTypewriter y = new FarTypewriter();
        for (int i = 1; i <= 512; i++) {
            Check.due("key " + i, y.key('a'), i);
        }
        FarTypewriter z = new FarTypewriter();
        for (int i = 1; i <= 256; i++) {
            Check.due("key " + i, z.key(32 + i % 95), i);
            Check.due("round " + i, z.round() > 0, i > 1);
        }
    }

    private static void none() {
        Check.due("NONE", FarTypewriter.NONE, -1);
        FarTypewriter x = new FarTypewriter();
        Check.due("kept(0, 1)", x.kept(0, 1), FarTypewriter.NONE);
        Check.due("key(0)", x.key(0), FarTypewriter.NONE);
    }

    private static void aNewObject() {
        FarTypewriter x = new FarTypewriter();
        Check.due("ADDRESS", x.state(0, 6), 1);
        Check.due("the ADDRESS that is answered", x.state(1, 6), 1);
        x.key('a');
        Check.each("tick", i -> x.tick(), 0, 1, 0, 0, 0, 0, 1);
        Check.due("ADDRESS in the LETTER", x.letter(0, 0, 2), 1);
        Check.due("program(0)", x.program(0), 0);
        FarTypewriter silent = new FarTypewriter();
        for (int i = 1; i <= 20; i++) {
            Check.due("tick " + i + " of silence", silent.tick(), i == 20 ? 1 : 0);
        }
    }

    private static void programs() {
        FarTypewriter x = new FarTypewriter();
        for (int p : new int[] {0, 1, 2, 3}) {
            Check.due("open(" + p + ", 1, 1)", x.open(p, 1, 1), true);
            Check.due("the program", x.program(0), p);
        }
        for (int p : new int[] {MIN, -1, 4, MAX}) {
            Check.refused(x, "open(" + p + ", 1, 1)", () -> x.open(p, 1, 1));
        }
    }

    private static void frames() {
        FarTypewriter x = new FarTypewriter();
        for (int frame : new int[] {1, 20}) {
            Check.due("open(0, " + frame + ", 50)", x.open(0, frame, 50), true);
            x.key('a');
            for (int i = 1; i <= frame; i++) {
                Check.due("tick " + i, x.tick(), i == frame ? 1 : 0);
            }
        }
        for (int frame : new int[] {MIN, -1, 0, 21, 50, MAX}) {
            Check.refused(x, "open(0, " + frame + ", 50)", () -> x.open(0, frame, 50));
        }
        Check.refused(x, "open(0, 0, 0)", () -> x.open(0, 0, 0));
        Check.refused(x, "open(0, 21, 21)", () -> x.open(0, 21, 21));
    }

    private static void agains() {
        FarTypewriter x = new FarTypewriter();
        int[][] good = {{1, 1}, {20, 20}, {1, 50}, {20, 50}, {19, 20}};
        for (int[] s : good) {
            Check.due("open(0, " + s[0] + ", " + s[1] + ")", x.open(0, s[0], s[1]), true);
        }
        int[][] bad = {{1, 0}, {2, 1}, {20, 19}, {1, 51}, {20, 51}, {1, MIN}, {1, -1}, {1, MAX}, {20, 0}};
        for (int[] s : bad) {
            Check.refused(x, "open(0, " + s[0] + ", " + s[1] + ")", () -> x.open(0, s[0], s[1]));
        }
        x.open(0, 1, 50);
        x.key('a');
        for (int i = 1; i <= 51; i++) {
            Check.due("tick " + i, x.tick(), i == 1 || i == 51 ? 1 : 0);
        }
    }

    /** All is in use: STATES, LETTERS, GUESSES, another PEN, program, ADDRESS and CLOCK. */
    private static FarTypewriter used() {
        FarTypewriter x = Check.opened(0, 3, 7);
        x.pen(2);
        Check.type(x, "ab");
        x.write('c');
        x.roam();
        Check.rounds(x, 7);
        x.key('d');
        x.program(2);
        x.key('e');
        Check.ticks(x, 3);
        x.carry(0, 0, 2, 0);
        return x;
    }

    private static void refusedLeavesAll() {
        FarTypewriter x = used();
        int[][] bad = {{4, 1, 1}, {-1, 1, 1}, {0, 0, 1}, {0, 21, 30}, {0, 2, 1}, {0, 1, 51}};
        for (int[] s : bad) {
            String call = "open(" + s[0] + ", " + s[1] + ", " + s[2] + ")";
            Check.refused(x, call, () -> x.open(s[0], s[1], s[2]));
        }
        Check.due("pen(0)", x.pen(0), 2);
        int last = x.state(0, 4);
        int silent = x.count(10) - last;
        for (int i = silent + 1; i <= 7; i++) {
            x.tick();
        }
        Check.due("AGAIN is 7 as before", x.state(0, 4), last + 7);
        Check.due("program(0)", x.program(0), 2);
    }

    private static void allIsAsAtFirst() {
        FarTypewriter x = OpenTest.used();
        Check.due("LINE 0", x.count(14) > 0, true);
        Check.due("LINE 1", x.count(15) > 0, true);
        Check.due("open(0, 2, 5)", x.open(0, 2, 5), true);
        FarTypewriter fresh = new FarTypewriter();
        Check.due("all that can be asked", Whole.of(x).equals(Whole.of(fresh)), true);
        Check.due("pen(0)", x.pen(0), 0);
        Check.due("program(0)", x.program(0), 0);
        sameTicks(x, fresh);
        x.key('a');
        fresh.key('a');
        x.write('b');
        fresh.write('b');
        sameTicks(x, fresh);
    }

    private static void sameTicks(FarTypewriter x, FarTypewriter fresh) {
        for (int i = 1; i <= 12; i++) {
            Check.due("tick " + i, x.tick(), fresh.tick());
        }
        Check.due("all that can be asked", Whole.of(x).equals(Whole.of(fresh)), true);
    }

    private static void nearAtFirst() {
        FarTypewriter x = new FarTypewriter();
        Check.each("state(0, what), what", what -> x.state(0, what), 0, 0, 0, 1, 0, 0, 1, 0);
    }

    private static void farAtFirst() {
        FarTypewriter x = new FarTypewriter();
        Check.each("state(1, what), what", what -> x.state(1, what), 0, 0, 0, 1, 0, 0, 1, 0);
    }

    private static void noSuchNumber() {
        FarTypewriter x = used();
        int[][] none = {{0, -1}, {0, 8}, {1, -1}, {1, 8}, {-1, 0}, {2, 0}, {MIN, 0}, {MAX, 0}, {0, MIN}, {0, MAX},
            {1, MIN}, {1, MAX}, {-1, 7}, {2, 7}};
        for (int[] ask : none) {
            Check.refused(x, "state(" + ask[0] + ", " + ask[1] + ")", () -> x.state(ask[0], ask[1]), -1);
        }
    }

    private static void noSuchState() {
        FarTypewriter x = Check.opened(0, 1, 50);
        for (int i = 0; i < 3; i++) {
            x.write('a');
            x.tick();
        }
        x.carry(1, 2, 0, 0);
        Check.each("kept(1, i), i", i -> x.kept(1, i), 0, 1, 2, 3, -1);
        Check.each("kept(0, i), i", i -> x.kept(0, i), 0, 3, -1);
        int[][] none = {{0, -1}, {1, -1}, {0, 2}, {1, 4}, {1, 32}, {-1, 0}, {2, 0}, {0, MIN}, {1, MAX}, {MIN, 0},
            {MAX, 0}};
        for (int[] ask : none) {
            Check.refused(x, "kept(" + ask[0] + ", " + ask[1] + ")", () -> x.kept(ask[0], ask[1]), -1);
        }
    }

    private static void guessWithoutACell() {
        FarTypewriter x = new FarTypewriter();
        x.key(3);
        x.key(4);
        x.key('a');
        Check.each("guess(0, what), what", what -> x.guess(0, what), 1, 1, -1, -1, -1, 0, 0, 1);
        Check.each("guess(1, what), what", what -> x.guess(1, what), 2, 1, -1, -1, -1, 0, 0, 0);
        Check.each("guess(2, what), what", what -> x.guess(2, what), 3, 1, 0, 0, 'a', 0, 0, 1);
    }

    private static void shownOrNot() {
        FarTypewriter x = Check.opened(0, 1, 50);
        x.key('a');
        Check.due("guess(0, 5)", x.guess(0, 5), 0);
        Check.rounds(x, 2);
        x.key('b');
        Check.due("guess(0, 5)", x.guess(0, 5), 1);
    }

    private static void noSuchGuess() {
        FarTypewriter x = new FarTypewriter();
        Check.due("of none at all", x.guess(0, 0), -2);
        Check.type(x, "ab");
        int[][] none = {{-1, 0}, {2, 0}, {60, 0}, {0, -1}, {0, 8}, {1, 8}, {MIN, 0}, {MAX, 0}, {0, MIN}, {0, MAX},
            {2, 3}, {-1, 4}};
        for (int[] ask : none) {
            Check.refused(x, "guess(" + ask[0] + ", " + ask[1] + ")", () -> x.guess(ask[0], ask[1]), -2);
        }
        for (int i = 0; i < 70; i++) {
            x.key('c');
        }
        Check.due("guess(59, 0)", x.guess(59, 0), 60);
        Check.due("guess(60, 0)", x.guess(60, 0), -2);
        FarTypewriter settled = Check.opened(0, 1, 1);
        Check.type(settled, "ab");
        Check.rounds(settled, 2);
        Check.due("GUESSES", settled.count(11), 0);
        Check.due("of one that went", settled.guess(0, 0), -2);
    }

    private static void countsSinceOpen() {
        FarTypewriter x = OpenTest.used();
        x.open(0, 1, 1);
        for (int what = 0; what < 16; what++) {
            Check.due("count(" + what + ")", x.count(what), what == 13 ? 1 : 0);
        }
    }

    private static void noSuchCount() {
        FarTypewriter x = used();
        for (int what : new int[] {MIN, -2, -1, 16, 17, 256, MAX}) {
            Check.refused(x, "count(" + what + ")", () -> x.count(what), -1);
        }
        Check.due("count(14)", x.count(14), 1);
        Check.due("count(15)", x.count(15) >= 0, true);
    }
}
