/** The edges of TICKS: Terms II, and promises 10 and 11. */
final class TickBoundaries {
    private TickBoundaries() { }

    static void all() {
        Doc.term("II", 18, "STATE 0 is there at first, with the first SCREEN and 0, at both ends.",
            TickBoundaries::firstState);
        Doc.term("II", 10, "A TICK (the CLOCK is one more)", TickBoundaries::clock);
        Doc.term("II", 10, "if its SCREEN (letters, marks, cursor) or TOOK is not that of NEWEST",
            TickBoundaries::leastDifferences);
        Doc.term("II", 18, "and it KEEPS fewer than 32, a new STATE is KEPT, its number one more.",
            TickBoundaries::fullOfStates);
        Doc.term("II", 20, "The FAR END's STATES: a number, a SCREEN, TOOK as it was.",
            TickBoundaries::tookOfNewest);
        Doc.term("II", 10, "NEWEST's number is not that of its LETTER sent before (0 at first), and the CLOCK is "
            + "FRAME or more above its LAST (when that was sent; 0 at first)", TickBoundaries::farWaitsForFrame);
        Doc.term("II", 10, "SURE (the greatest STATE that the near end told it has; 0) is less than NEWEST's, "
            + "and it is AGAIN or more above", TickBoundaries::farWaitsForAgain);
        Doc.term("II", 17, "it OWES one (a LETTER was TAKEN since its own one before, by which KNOWN is less than "
            + "TOOK then)", TickBoundaries::farOwes);
        Doc.term("II", 10, "by which KNOWN is less than TOOK then), and it is FRAME or more above.",
            TickBoundaries::farOwesAndWaits);
        Doc.term("II", 10, "KEYS are not as many as in its LETTER before (0 at first), and FRAME;",
            TickBoundaries::nearWaitsForFrame);
        Doc.term("II", 10, "KNOWN (the greatest TOOK that it was told; 0) is less than KEYS, and AGAIN;",
            TickBoundaries::nearWaitsForAgain);
        Doc.term("II", 17, "it OWES one (a LETTER was TAKEN, or HANGED, since, by which SURE is less than NEWEST's "
            + "number then;", TickBoundaries::nearOwes);
        Doc.term("II", 17, "or it has roamed since), and FRAME;", TickBoundaries::nearOwesAndWaits);
        Doc.term("II", 10, "or it is 4 AGAIN or more above.", TickBoundaries::nearBreaksItsSilence);
        Doc.promise(10, "how many LETTERS were sent (those that were LOST at once, too).",
            TickBoundaries::fullLines);
        Doc.promise(11, "A TICK; then all LETTERS of LINE 0, then those of LINE 1, are TAKEN in order: how many.",
            TickBoundaries::emptyAndFullRounds);
    }

    /** Ticks that send nothing, then one that sends so many. */
    private static void waits(FarTypewriter x, int silent, int sent) {
        for (int i = 0; i < silent; i++) {
            Check.due("tick " + (i + 1) + " of " + silent + " silent ones", x.tick(), 0);
        }
        Check.due("tick behind " + silent + " silent ones", x.tick(), sent);
    }

    private static void silence(FarTypewriter x, int ticks) {
        for (int i = 0; i < ticks; i++) {
            Check.due("silent tick " + (i + 1), x.tick(), 0);
        }
    }

    private static void firstState() {
        FarTypewriter x = new FarTypewriter();
        for (int end = 0; end < 2; end++) {
            Check.due("kept(" + end + ", 0)", x.kept(end, 0), 0);
            Check.due("kept(" + end + ", 1)", x.kept(end, 1), -1);
            Check.due("NEWEST", x.state(end, 2), 0);
            Check.due("STATES kept", x.state(end, 3), 1);
        }
        x.tick();
        Check.due("the first SCREEN and 0 make no other STATE", x.state(1, 2), 0);
        Check.due("alike()", x.alike(), true);
    }

    private static void clock() {
        FarTypewriter x = new FarTypewriter();
        Check.due("CLOCK", x.count(10), 0);
        x.tick();
        Check.due("CLOCK", x.count(10), 1);
        x.round();
        Check.due("CLOCK", x.count(10), 2);
        x.key('a');
        x.carry(0, 0, 0, 0);
        Check.due("CLOCK stays", x.count(10), 2);
    }

    private static void state(FarTypewriter x, String why, int number) {
        x.tick();
        Check.due("NEWEST by " + why, x.state(1, 2), number);
    }

    private static void leastDifferences() {
        FarTypewriter x = Check.opened(2, 1, 50);
        x.key('a');
        x.tick();
        x.carry(0, 0, 0, 0);
        state(x, "TOOK alone", 1);
        state(x, "nothing", 1);
        x.move(0, 1);
        state(x, "the column alone", 2);
        x.move(1, 1);
        state(x, "the row alone", 3);
        x.move(6, 23);
        x.write('z');
        x.move(1, 1);
        state(x, "a letter alone", 4);
        x.pen(3);
        state(x, "the PEN", 4);
        x.move(6, 23);
        x.write('z');
        x.move(1, 1);
        state(x, "a mark alone", 5);
        x.write(' ');
        x.wipe(1);
        x.move(1, 1);
        state(x, "what was and is no more", 5);
        x.program(2);
        state(x, "the program", 5);
    }

    private static FarTypewriter with32States() {
        FarTypewriter x = Check.opened(0, 1, 50);
        for (int i = 1; i <= 31; i++) {
            x.write('a');
            x.tick();
            Check.due("NEWEST", x.state(1, 2), i);
        }
        Check.due("STATES kept", x.state(1, 3), 32);
        return x;
    }

    private static void fullOfStates() {
        FarTypewriter x = with32States();
        x.write('b');
        Check.due("nothing new to send", x.tick(), 0);
        Check.due("NEWEST", x.state(1, 2), 31);
        Check.due("STATES kept", x.state(1, 3), 32);
        Check.due("kept(1, 0)", x.kept(1, 0), 0);
        Check.due("kept(1, 31)", x.kept(1, 31), 31);
        x.carry(1, 0, 0, 0);
        Check.due("the near end has STATE 1", x.state(0, 2), 1);
        x.tick();
        x.carry(0, x.count(14) - 1, 0, 0);
        Check.due("SURE", x.state(1, 1), 1);
        Check.due("STATES kept: one less", x.state(1, 3), 31);
        Check.due("the SCREEN of now is sent", x.tick(), 1);
        Check.due("NEWEST", x.state(1, 2), 32);
        Check.due("STATES kept", x.state(1, 3), 32);
        for (int i = 0; i < 32; i++) {
            Check.due("kept(1, " + i + ")", x.kept(1, i), i + 1);
        }
        x.carry(1, x.count(15) - 1, 0, 0);
        Check.due("alike()", x.alike(), true);
        fullOfStatesAgain();
    }

    /** The far end kept 32 STATES, all but the last go, and once more of a few; then it keeps 32 again. */
    private static void fullOfStatesAgain() {
        FarTypewriter x = with32States();
        tellNewest(x);
        Check.each("kept(1, i), i", i -> x.kept(1, i), 31, -1);
        for (int i = 0; i < 3; i++) {
            x.write('b');
            x.tick();
        }
        tellNewest(x);
        Check.each("kept(1, i), i", i -> x.kept(1, i), 34, -1);
        for (int i = 1; i <= 33; i++) {
            x.write('c');
            x.tick();
        }
        Check.due("STATES kept", x.state(1, 3), 32);
        for (int i = 0; i < 32; i++) {
            Check.due("kept(1, " + i + ")", x.kept(1, i), 34 + i);
        }
    }

    /** The near end takes the newest LETTER, and the far end its answer. */
    private static void tellNewest(FarTypewriter x) {
        x.carry(1, x.count(15) - 1, 0, 0);
        x.tick();
        x.carry(0, x.count(14) - 1, 0, 0);
        Check.due("SURE", x.state(1, 1), x.state(1, 2));
    }

    /** With 32 STATES the far end goes on, but its LETTERS tell NEWEST alone. */
    private static void tookOfNewest() {
        FarTypewriter x = with32States();
        x.key('k');
        x.tick();
        x.carry(0, 0, 0, 0);
        Check.due("TOOK", x.state(1, 0), 1);
        Check.cursor(x, 1, 1, 8);
        Check.due("it is sent, as it is OWED", x.tick(), 1);
        int k = x.count(15) - 1;
        Check.each("number, TOOK, cursor; byte", i -> x.letter(1, k, 5 + i), 0, 31, 0, 0, 1, 7);
        x.carry(1, k, 0, 0);
        Check.due("KNOWN", x.state(0, 1), 0);
        Check.due("GUESSES", x.count(11), 1);
        Check.row(x, 0, 1, 6, "a ");
        Check.due("alike()", x.alike(), false);
    }

    /** Something that the near end (0) or the far one (1) has to send. */
    private static void change(FarTypewriter x, int end) {
        if (end == 0) {
            x.key('a');
        } else {
            x.write('a');
        }
    }

    private static void waitsForFrame(int end) {
        for (int frame : new int[] {1, 2, 20}) {
            FarTypewriter x = Check.opened(0, frame, 50);
            change(x, end);
            waits(x, frame - 1, 1);
            Check.due("LAST", x.state(end, 4), frame);
            silence(x, frame);
            change(x, end);
            Check.due("at once, FRAME is over", x.tick(), 1);
            change(x, end);
            waits(x, frame - 1, 1);
            Check.due("LAST", x.state(end, 4), 3 * frame + 1);
            Check.due("LAST of the other end", x.state(1 - end, 4), 0);
        }
        FarTypewriter x = Check.opened(0, 20, 50);
        silence(x, 30);
        change(x, end);
        Check.due("the first one, long behind FRAME", x.tick(), 1);
    }

    private static void waitsForAgain(int end) {
        int[][] settings = {{1, 1}, {2, 5}, {20, 20}, {1, 50}};
        for (int[] s : settings) {
            FarTypewriter x = Check.opened(0, s[0], s[1]);
            change(x, end);
            waits(x, s[0] - 1, 1);
            waits(x, s[1] - 1, 1);
            waits(x, s[1] - 1, 1);
            Check.due("LAST", x.state(end, 4), s[0] + 2 * s[1]);
        }
    }

    private static void farWaitsForFrame() {
        waitsForFrame(1);
    }

    private static void farWaitsForAgain() {
        waitsForAgain(1);
        FarTypewriter x = Check.opened(0, 1, 5);
        x.write('a');
        x.round();
        x.round();
        Check.due("SURE is NEWEST's", x.state(1, 1), 1);
        silence(x, 17);
        Check.due("LAST", x.state(1, 4), 1);
    }

    private static void farOwes() {
        FarTypewriter x = Check.opened(2, 1, 50);
        x.key('a');
        x.tick();
        Check.due("nothing TAKEN", x.state(1, 5), 0);
        x.carry(0, 0, 3, 1);
        Check.due("a BENT one is not TAKEN", x.state(1, 5), 0);
        x.key('b');
        x.tick();
        x.carry(0, 0, 2, 0);
        Check.due("KNOWN 0, TOOK 2", x.state(1, 5), 1);
        x.tick();
        Check.due("sent since", x.state(1, 5), 0);
        x.carry(0, 0, 0, 0);
        Check.due("the same LETTER again", x.state(1, 5), 1);
        x.tick();
        x.carry(1, 0, 0, 0);
        x.tick();
        Check.due("it tells KNOWN 2", x.letter(0, 0, 4), 2);
        x.carry(0, 0, 0, 0);
        Check.due("KNOWN 2, TOOK 2", x.state(1, 5), 0);
        x.key('c');
        x.tick();
        x.carry(0, 0, 0, 0);
        Check.due("KNOWN 2, TOOK 3", x.state(1, 5), 1);
    }

    /** The LETTER that it OWES tells nothing new, and comes FRAME behind the one before. */
    private static void farOwesAndWaits() {
        for (int frame : new int[] {1, 3, 20}) {
            FarTypewriter x = Check.opened(2, frame, 50);
            x.key('a');
            waits(x, frame - 1, 1);
            x.carry(0, 0, 2, 0);
            Check.due("the new STATE is sent", x.tick(), 1);
            x.carry(0, 0, 0, 0);
            waits(x, frame - 1, 1);
            Check.due("LAST", x.state(1, 4), 2 * frame + 1);
            Check.due("NEWEST", x.state(1, 2), 1);
            silence(x, frame);
        }
    }

    private static void nearWaitsForFrame() {
        waitsForFrame(0);
    }

    private static void nearWaitsForAgain() {
        waitsForAgain(0);
        FarTypewriter x = Check.opened(0, 1, 5);
        x.key('a');
        Check.rounds(x, 3);
        Check.due("KNOWN is KEYS", x.state(0, 1), 1);
        Check.due("LAST", x.state(0, 4), 3);
        silence(x, 19);
        x.key('b');
        x.tick();
        Check.due("KNOWN is one less than KEYS", x.state(0, 1), 1);
        waits(x, 4, 1);
    }

    private static void nearOwes() {
        FarTypewriter x = Check.opened(0, 1, 50);
        x.write('a');
        x.tick();
        x.carry(1, 0, 2, 0);
        Check.due("SURE 0, NEWEST 1", x.state(0, 5), 1);
        x.tick();
        Check.due("sent since", x.state(0, 5), 0);
        x.carry(0, 0, 0, 0);
        x.write('b');
        x.tick();
        x.carry(1, 1, 2, 0);
        Check.due("SURE 1, NEWEST 2", x.state(0, 5), 1);
        x.tick();
        x.carry(0, 0, 0, 0);
        Check.due("SURE", x.state(1, 1), 2);
        Check.due("kept(0, 0)", x.kept(0, 0), 1);
        x.carry(1, 0, 0, 0);
        Check.due("HANGING", x.count(4), 1);
        Check.due("SURE 0 HANGS", x.state(0, 5), 1);
        x.tick();
        Check.due("sent since", x.state(0, 5), 0);
        x.carry(1, 0, 3, 1);
        Check.due("BENT", x.count(3), 1);
        Check.due("a BENT one is neither", x.state(0, 5), 0);
        sureIsNewest();
        lostByItsAddress();
    }

    private static void sureIsNewest() {
        FarTypewriter x = TakingBoundaries.twoLettersOfState1();
        Check.due("OWES nothing yet", x.state(0, 5), 0);
        int taken = x.count(5);
        x.carry(1, 1, 0, 0);
        Check.due("TAKEN", x.count(5), taken + 1);
        Check.due("SURE 1, NEWEST 1", x.state(0, 5), 0);
        x.carry(1, 0, 0, 0);
        Check.due("SURE 0 HANGS", x.state(0, 5), 1);
    }

    private static void lostByItsAddress() {
        FarTypewriter x = Check.opened(0, 1, 50);
        x.write('a');
        x.roam();
        x.tick();
        Check.due("LINE 1", x.count(15), 1);
        x.carry(1, 0, 0, 0);
        Check.due("LOST", x.count(2), 1);
        Check.due("a LOST one is neither", x.state(0, 5), 0);
    }

    private static void nearOwesAndWaits() {
        for (int frame : new int[] {1, 3, 20}) {
            FarTypewriter x = Check.opened(0, frame, 50);
            x.roam();
            Check.due("roamed", x.state(0, 5), 1);
            waits(x, frame - 1, 1);
            Check.due("sent since", x.state(0, 5), 0);
            x.roam();
            waits(x, frame - 1, 1);
            Check.due("LAST", x.state(0, 4), 2 * frame);
            silence(x, frame);
            owesByALetterAndWaits(frame);
        }
    }

    /** The same LETTER is taken twice; the answer to the second waits for FRAME. */
    private static void owesByALetterAndWaits(int frame) {
        FarTypewriter x = Check.opened(0, frame, 50);
        x.write('a');
        waits(x, frame - 1, 1);
        x.carry(1, 0, 2, 0);
        Check.due("at once, FRAME is over", x.tick(), 1);
        x.carry(1, 0, 0, 0);
        Check.due("OWES", x.state(0, 5), 1);
        waits(x, frame - 1, 1);
        Check.due("LAST", x.state(0, 4), 2 * frame + 1);
        silence(x, frame);
    }

    private static void nearBreaksItsSilence() {
        for (int again : new int[] {1, 2, 50}) {
            FarTypewriter x = Check.opened(0, 1, again);
            waits(x, 4 * again - 1, 1);
            Check.due("LAST", x.state(0, 4), 4 * again);
            Check.due("the far end was silent", x.state(1, 4), 0);
            Check.bytes(x, 0, 0, 75, 1, 0, 0, 0, 0, 0, 0);
            waits(x, 4 * again - 1, 1);
        }
    }

    private static FarTypewriter withFullLines() {
        FarTypewriter x = Check.opened(0, 1, 1);
        x.key('a');
        x.write('b');
        for (int i = 1; i <= 40; i++) {
            Check.due("tick " + i, x.tick(), 2);
        }
        Check.due("LINE 0", x.count(14), 40);
        Check.due("LINE 1", x.count(15), 40);
        Check.due("LOST", x.count(2), 0);
        return x;
    }

    private static void fullLines() {
        FarTypewriter x = withFullLines();
        Check.due("a tick with both LINES full", x.tick(), 2);
        Check.due("LETTERS sent", x.count(0), 82);
        Check.due("LOST", x.count(2), 2);
        x.carry(1, 0, 1, 0);
        Check.due("a tick with one LINE full", x.tick(), 2);
        Check.due("LOST", x.count(2), 4);
        Check.due("LINE 1", x.count(15), 40);
        Check.due("a tick of silence", Check.opened(0, 1, 1).tick(), 0);
    }

    private static void emptyAndFullRounds() {
        FarTypewriter empty = Check.opened(0, 1, 50);
        Check.due("a round of nothing", empty.round(), 0);
        Check.due("CLOCK", empty.count(10), 1);
        FarTypewriter x = withFullLines();
        Check.due("a round of full LINES", x.round(), 80);
        Check.due("LOST at once", x.count(2), 2);
        Check.due("LINE 0", x.count(14), 0);
        Check.due("LINE 1", x.count(15), 0);
        Check.due("TAKEN", x.count(5), 80);
        Check.due("TOOK", x.state(1, 0), 1);
        inOrder();
        theOthersCount();
    }

    /** The newest LETTER of LINE 0 comes last, and so says which ADDRESS is answered. */
    private static void inOrder() {
        FarTypewriter x = Check.opened(0, 1, 50);
        x.roam();
        x.tick();
        x.roam();
        x.write('a');
        Check.due("two of LINE 0, one of LINE 1", x.round(), 3);
        Check.due("answered", x.state(1, 6), 3);
        Check.due("the one of LINE 1 was for ADDRESS 1", x.count(2), 1);
        x.write('b');
        x.tick();
        x.write('c');
        Check.due("two of LINE 1", x.round(), 2);
        Check.due("kept(0, 1)", x.kept(0, 1), 2);
        Check.due("kept(0, 2)", x.kept(0, 2), 3);
        Check.due("alike()", x.alike(), true);
    }

    private static void theOthersCount() {
        FarTypewriter x = Check.opened(0, 1, 50);
        x.write('a');
        x.roam();
        Check.due("a LOST one counts", x.round(), 2);
        Check.due("LOST", x.count(2), 1);
        Check.due("TAKEN", x.count(5), 1);
    }
}
