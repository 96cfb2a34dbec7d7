/** Promises 10, 11, 17 and 18: when each end sends, what it OWES, and the STATES that are KEPT. */
public final class TickTest {
    public static void main(String[] args) {
        nearSendsNewKeys();
        nearSendsAgain();
        nearOwesByAState();
        nearOwesNothingForWhatIsSure();
        nearSendsWhenLongSilent();
        roamingOwes();
        farSendsNewStates();
        farSendsAgain();
        farOwes();
        farOwesNothingForWhatIsKnown();
        farKeepsAtMost32();
        statesGo();
        statesAreLaidOnTheirOwnBase();
        statesOfTookAlone();
        rounds();
        asking();
        Check.finish();
    }

    private static void sends(FarTypewriter x, int... want) {
        for (int i = 0; i < want.length; i++) {
            Check.due("tick at CLOCK " + (x.count(10) + 1), x.tick(), want[i]);
        }
    }

    private static void nearSendsNewKeys() {
        FarTypewriter x = Check.opened(0, 3, 50);
        x.key('a');
        sends(x, 0, 0, 1, 0, 0, 0);
        Check.due("LAST", x.state(0, 4), 3);
        x.key('b');
        sends(x, 1);
        x.key('c');
        sends(x, 0, 0, 1, 0);
        Check.due("LAST", x.state(0, 4), 10);
        Check.due("CLOCK", x.count(10), 11);
        Check.due("LINE 0", x.count(14), 3);
        Check.due("LINE 1", x.count(15), 0);
    }

    private static void nearSendsAgain() {
        FarTypewriter x = Check.opened(0, 2, 4);
        x.key('a');
        sends(x, 0, 1, 0, 0, 0, 1, 0, 0, 0, 1);
        Check.bytes(x, 0, 2, 75, 1, 0, 0, 0, 1, 0, 0, 'a');
    }

    private static void nearOwesByAState() {
        FarTypewriter x = Check.opened(0, 2, 10);
        x.write('a');
        sends(x, 0, 1);
        Check.due("OWES nothing", x.state(0, 5), 0);
        x.carry(1, 0, 2, 0);
        Check.due("OWES", x.state(0, 5), 1);
        Check.due("SURE told", x.state(0, 7), 0);
        sends(x, 1);
        Check.due("OWES no more", x.state(0, 5), 0);
        Check.bytes(x, 0, 0, 75, 1, 0, 0, 0, 0, 0, 1);
        x.carry(1, 0, 0, 0);
        Check.due("OWES by the same LETTER", x.state(0, 5), 1);
        x.carry(0, 0, 0, 0);
        Check.due("SURE", x.state(1, 1), 1);
        sends(x, 0, 1, 0, 0);
        Check.due("LAST", x.state(0, 4), 5);
    }

    /** The far end answers a LETTER that came twice, though the near end has its NEWEST for sure. */
    private static void nearOwesNothingForWhatIsSure() {
        FarTypewriter x = Check.opened(0, 1, 50);
        x.key('a');
        x.tick();
        x.carry(0, 0, 2, 0);
        x.tick();
        x.carry(1, 0, 0, 0);
        x.tick();
        x.carry(0, 1, 0, 0);
        Check.due("SURE", x.state(1, 1), 1);
        x.carry(0, 0, 0, 0);
        Check.due("the far end OWES", x.state(1, 5), 1);
        Check.due("tick", x.tick(), 1);
        Check.bytes(x, 1, 0, 83, 1, 0, 1, 0, 1, 0, 1, 0, 1, 0);
        x.carry(1, 0, 2, 0);
        Check.due("the near end OWES nothing", x.state(0, 5), 0);
        Check.due("near keeps", x.state(0, 3), 1);
        Check.due("SURE told", x.state(0, 7), 1);
    }

    private static void nearSendsWhenLongSilent() {
        FarTypewriter x = Check.opened(0, 1, 2);
        sends(x, 0, 0, 0, 0, 0, 0, 0, 1, 0, 0, 0, 0, 0, 0, 0, 1);
        Check.due("LAST", x.state(0, 4), 16);
        Check.due("LAST of the far end", x.state(1, 4), 0);
    }

    private static void roamingOwes() {
        FarTypewriter x = Check.opened(0, 3, 50);
        Check.due("roam()", x.roam(), 2);
        Check.due("OWES", x.state(0, 5), 1);
        sends(x, 0, 0, 1, 0, 0, 0);
        Check.due("OWES no more", x.state(0, 5), 0);
        Check.bytes(x, 0, 0, 75, 2, 0, 0, 0, 0, 0, 0);
    }

    private static void farSendsNewStates() {
        FarTypewriter x = Check.opened(0, 3, 50);
        x.write('a');
        sends(x, 0);
        Check.due("NEWEST", x.state(1, 2), 1);
        x.write('b');
        sends(x, 0);
        Check.due("NEWEST", x.state(1, 2), 2);
        sends(x, 1, 0);
        Check.due("NEWEST stays", x.state(1, 2), 2);
        Check.due("kept", x.state(1, 3), 3);
        Check.due("LAST", x.state(1, 4), 3);
        x.write('c');
        sends(x, 0, 1, 0);
        Check.due("LAST", x.state(1, 4), 6);
    }

    private static void farSendsAgain() {
        FarTypewriter x = Check.opened(0, 1, 4);
        x.write('a');
        sends(x, 1, 0, 0, 0, 1, 0, 0, 0);
        x.carry(1, 1, 0, 0);
        sends(x, 2);
        x.carry(0, 0, 0, 0);
        Check.due("SURE", x.state(1, 1), 1);
        sends(x, 0, 0, 0, 0, 0, 0, 0, 0, 0, 0, 0, 0, 0, 0, 0, 1);
        Check.due("LAST of the far end", x.state(1, 4), 9);
    }

    private static void farOwes() {
        FarTypewriter x = Check.opened(3, 1, 6);
        x.key('a');
        x.tick();
        x.carry(0, 0, 2, 0);
        Check.due("OWES", x.state(1, 5), 1);
        sends(x, 1);
        Check.due("OWES no more", x.state(1, 5), 0);
        sends(x, 0);
        x.carry(0, 0, 0, 0);
        Check.due("OWES by the same LETTER", x.state(1, 5), 1);
        sends(x, 1);
        Check.due("no new STATE for that", x.state(1, 2), 1);
        Check.due("TOOK", x.state(1, 0), 1);
        Check.due("LETTERS back", x.count(15), 2);
    }

    private static void farOwesNothingForWhatIsKnown() {
        FarTypewriter x = Check.opened(0, 1, 1);
        x.key('a');
        Check.rounds(x, 3);
        Check.due("KNOWN", x.state(0, 1), 1);
        Check.due("OWES", x.state(1, 5), 0);
        x.tick();
        x.carry(0, 0, 0, 0);
        Check.due("OWES nothing", x.state(1, 5), 0);
    }

    private static void farKeepsAtMost32() {
        FarTypewriter x = Check.opened(0, 20, 50);
        for (int i = 0; i < 31; i++) {
            x.write('a');
            x.tick();
        }
        Check.due("NEWEST", x.state(1, 2), 31);
        Check.due("kept", x.state(1, 3), 32);
        x.write('b');
        x.key('k');
        x.tick();
        Check.due("NEWEST stays", x.state(1, 2), 31);
        Check.due("kept(1, 31)", x.kept(1, 31), 31);
        Check.due("kept(1, 32)", x.kept(1, 32), -1);
        theLetterTellsNewestAlone(x);
        x.carry(1, 0, 1, 0);
        x.carry(1, 0, 0, 0);
        Check.due("near NEWEST", x.state(0, 2), 31);
        Check.due("near keeps", x.state(0, 3), 2);
        Check.ticks(x, 21);
        while (x.count(14) > 1) {
            x.carry(0, 0, 1, 0);
        }
        x.carry(0, 0, 0, 0);
        Check.due("SURE", x.state(1, 1), 31);
        Check.due("far keeps", x.state(1, 3), 1);
        x.tick();
        Check.due("NEWEST goes on", x.state(1, 2), 32);
    }

    /** With 32 STATES the SCREEN goes on, but a LETTER tells NEWEST, with the TOOK and cursor of it. */
    private static void theLetterTellsNewestAlone(FarTypewriter x) {
        Check.ticks(x, 10);
        x.carry(0, 0, 0, 0);
        Check.due("TOOK", x.state(1, 0), 1);
        int before = x.count(15);
        for (int i = 0; i < 50 && x.count(15) == before; i++) {
            x.tick();
        }
        int k = x.count(15) - 1;
        Check.due("number", x.letter(1, k, 6), 31);
        Check.due("TOOK of NEWEST", x.letter(1, k, 8), 0);
        Check.due("row of NEWEST", x.letter(1, k, 9), 1);
        Check.due("column of NEWEST", x.letter(1, k, 10), 7);
        Check.cursor(x, 1, 1, 9);
        while (x.count(15) > 2) {
            x.carry(1, 0, 1, 0);
        }
    }

    private static void statesGo() {
        FarTypewriter x = Check.opened(0, 1, 50);
        for (int i = 0; i < 4; i++) {
            x.write('a' + i);
            x.tick();
        }
        x.carry(1, 1, 0, 0);
        Check.due("near NEWEST", x.state(0, 2), 2);
        Check.due("kept(0, 0)", x.kept(0, 0), 0);
        Check.due("kept(0, 1)", x.kept(0, 1), 2);
        Check.due("kept(0, 2)", x.kept(0, 2), -1);
        x.tick();
        x.carry(0, 0, 0, 0);
        Check.due("SURE", x.state(1, 1), 2);
        Check.due("far keeps", x.state(1, 3), 3);
        Check.due("kept(1, 0)", x.kept(1, 0), 2);
        Check.due("kept(1, 2)", x.kept(1, 2), 4);
        x.carry(1, 0, 0, 0);
        Check.due("an older STATE is not kept", x.state(0, 3), 2);
        x.write('e');
        x.tick();
        Check.due("SURE in the LETTER", x.letter(1, x.count(15) - 1, 4), 2);
        x.carry(1, x.count(15) - 1, 0, 0);
        Check.due("kept(0, 0)", x.kept(0, 0), 2);
        Check.due("kept(0, 1)", x.kept(0, 1), 5);
        Check.due("SURE told", x.state(0, 7), 2);
        Check.due("alike()", x.alike(), true);
    }

    private static void statesAreLaidOnTheirOwnBase() {
        FarTypewriter x = Check.opened(0, 1, 50);
        Check.print(x, "ab");
        x.tick();
        x.carry(1, 0, 2, 0);
        x.carry(1, 0, 0, 0);
        Check.due("the same STATE is not kept twice", x.state(0, 3), 2);
        x.wipe(0);
        x.write(13);
        x.tick();
        Check.due("from STATE 0", x.letter(1, 0, 4), 0);
        x.carry(1, 0, 0, 0);
        Check.row(x, 0, 0, 0, "   ");
        Check.due("alike()", x.alike(), true);
    }

    private static void statesOfTookAlone() {
        FarTypewriter x = Check.opened(2, 1, 1);
        x.key('a');
        x.round();
        x.tick();
        Check.due("a STATE for TOOK alone", x.state(1, 2), 1);
        x.move(1, 1);
        x.tick();
        Check.due("a STATE for the cursor alone", x.state(1, 2), 2);
        x.pen(3);
        x.tick();
        Check.due("no STATE for the PEN", x.state(1, 2), 2);
        x.write(' ');
        x.move(1, 1);
        x.tick();
        Check.due("a STATE for a mark alone", x.state(1, 2), 3);
    }

    private static void rounds() {
        FarTypewriter x = Check.opened(0, 1, 1);
        Check.due("round of nothing", x.round(), 0);
        x.key('a');
        x.tick();
        x.key('b');
        Check.due("round takes what was there", x.round(), 2);
        Check.due("LINE 0", x.count(14), 0);
        Check.due("TOOK", x.state(1, 0), 2);
        x.write('c');
        Check.due("round of both", x.round(), 2);
        Check.due("LINE 1", x.count(15), 0);
        Check.due("alike()", x.alike(), true);
        Check.row(x, 0, 0, 0, "abc ");
        Check.due("CLOCK", x.count(10), 4);
    }

    private static void asking() {
        FarTypewriter x = new FarTypewriter();
        int[] wrong = {Integer.MIN_VALUE, -1, 8, Integer.MAX_VALUE};
        for (int what : wrong) {
            Check.due("state(0, " + what + ")", x.state(0, what), -1);
            Check.due("state(1, " + what + ")", x.state(1, what), -1);
            Check.due("kept(0, " + what + ")", x.kept(0, what), -1);
            Check.due("kept(1, " + what + ")", x.kept(1, what), -1);
        }
        int[] noEnd = {Integer.MIN_VALUE, -1, 2, Integer.MAX_VALUE};
        for (int end : noEnd) {
            Check.due("state(" + end + ", 0)", x.state(end, 0), -1);
            Check.due("kept(" + end + ", 0)", x.kept(end, 0), -1);
        }
    }
}
