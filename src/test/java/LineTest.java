/** Promises 12, 13 and 21: how LETTERS are carried, what becomes of them, addresses, and counts. */
public final class LineTest {
    private static final int SENT = 0;
    private static final int BYTES = 1;
    private static final int LOST = 2;
    private static final int BENT = 3;
    private static final int HANGING = 4;
    private static final int TAKEN = 5;
    private static final int FORGED = 6;

    public static void main(String[] args) {
        refused();
        outOfOrder();
        lostAndStaying();
        bending();
        bendingBackwards();
        everyBentByteIsSeen();
        notBentByNothing();
        hanging();
        fullLines();
        roaming();
        olderLettersDoNotTurnTheAddress();
        lostByAddressThatStays();
        counting();
        nothingIsTypedTwice();
        Check.finish();
    }

    private static void refused() {
        FarTypewriter x = Check.opened(0, 1, 1);
        x.key('a');
        x.tick();
        int min = Integer.MIN_VALUE;
        int max = Integer.MAX_VALUE;
        int[][] none = {{-1, 0, 0, 0}, {2, 0, 0, 0}, {1, 0, 0, 0}, {0, 1, 0, 0}, {0, -1, 0, 0},
            {0, 0, -1, 0}, {0, 0, 4, 0}, {0, 0, 3, -1}, {0, 0, 3, 11 * 256}, {0, 0, 3, max}, {0, 0, 3, min},
            {min, min, min, min}, {max, max, max, max}, {0, max, 0, 0}, {0, min, 0, 0}};
        for (int[] ask : none) {
            Check.due("carry of none", x.carry(ask[0], ask[1], ask[2], ask[3]), -1);
        }
        Check.due("LINE 0", x.count(14), 1);
        Check.due("BENT", x.count(BENT), 0);
        Check.due("TOOK", x.state(1, 0), 0);
        Check.due("carry(0, 0, 2, -1)", x.carry(0, 0, 2, -1), 1);
        Check.due("carry(0, 0, 0, min)", x.carry(0, 0, 0, min), 0);
    }

    private static void outOfOrder() {
        FarTypewriter x = Check.opened(0, 1, 50);
        for (char k = 'a'; k <= 'd'; k++) {
            x.key(k);
            x.tick();
        }
        Check.due("the third first", x.carry(0, 2, 0, 0), 3);
        Check.due("TOOK", x.state(1, 0), 3);
        Check.due("the one behind it is now third", x.letter(0, 2, 6), 4);
        Check.due("the first", x.carry(0, 0, 0, 0), 2);
        Check.due("TOOK", x.state(1, 0), 3);
        Check.due("the second", x.carry(0, 0, 0, 0), 1);
        Check.due("the fourth", x.carry(0, 0, 0, 0), 0);
        Check.row(x, 1, 0, 0, "abcd ");
        Check.due("TAKEN", x.count(TAKEN), 4);
    }

    private static void lostAndStaying() {
        FarTypewriter x = Check.opened(0, 1, 50);
        x.key('a');
        x.tick();
        Check.due("stays", x.carry(0, 0, 2, 0), 1);
        Check.due("stays", x.carry(0, 0, 2, 0), 1);
        Check.due("TAKEN", x.count(TAKEN), 2);
        Check.row(x, 1, 0, 0, "a ");
        Check.due("lost", x.carry(0, 0, 1, 0), 0);
        Check.due("LOST", x.count(LOST), 1);
        Check.due("TAKEN", x.count(TAKEN), 2);
        Check.due("TOOK", x.state(1, 0), 1);
    }

    private static void bending() {
        FarTypewriter x = Check.opened(0, 1, 1);
        x.key('a');
        x.tick();
        Check.due("bent", x.carry(0, 0, 3, 8 * 256 + 3), 0);
        Check.due("BENT", x.count(BENT), 1);
        Check.due("TAKEN", x.count(TAKEN), 0);
        Check.due("LOST", x.count(LOST), 0);
        Check.due("TOOK", x.state(1, 0), 0);
        Check.due("OWES", x.state(1, 5), 0);
    }

    private static void bendingBackwards() {
        FarTypewriter x = Check.opened(0, 1, 1);
        x.write('a');
        x.tick();
        Check.due("bent in its address", x.carry(1, 0, 3, 256 + 1), 0);
        Check.due("BENT comes ahead of LOST", x.count(BENT), 1);
        Check.due("LOST", x.count(LOST), 0);
        Check.due("near NEWEST", x.state(0, 2), 0);
        Check.due("OWES", x.state(0, 5), 0);
    }

    private static void everyBentByteIsSeen() {
        FarTypewriter x = Check.opened(0, 1, 1);
        Check.type(x, "ab");
        int bent = 0;
        for (int i = 0; i < 12; i++) {
            x.tick();
            Check.due("bytes", x.letter(0, 0, 0), 12);
            x.carry(0, 0, 3, i * 256 + 255 - 13 * i);
            bent++;
            Check.due("BENT in byte " + i, x.count(BENT), bent);
        }
        Check.due("TOOK", x.state(1, 0), 0);
        Check.due("FORGED", x.count(FORGED), 0);
    }

    private static void notBentByNothing() {
        FarTypewriter x = Check.opened(0, 1, 1);
        x.key('a');
        x.tick();
        Check.due("byte 10 becomes itself", x.carry(0, 0, 3, 10 * 256), 0);
        x.tick();
        Check.due("byte 0 becomes itself", x.carry(0, 0, 3, 0), 0);
        Check.due("TAKEN", x.count(TAKEN), 2);
        Check.due("BENT", x.count(BENT), 0);
        Check.due("FORGED", x.count(FORGED), 0);
        Check.due("TOOK", x.state(1, 0), 1);
    }

    /** A LETTER from STATE 0 comes when the near end keeps it no more. */
    private static void hanging() {
        FarTypewriter x = Check.opened(0, 1, 50);
        x.write('a');
        x.tick();
        x.carry(1, 0, 2, 0);
        x.tick();
        x.carry(0, 0, 0, 0);
        x.write('b');
        x.tick();
        x.carry(1, 1, 0, 0);
        Check.due("kept(0, 0)", x.kept(0, 0), 1);
        Check.due("near NEWEST", x.state(0, 2), 2);
        x.tick();
        Check.due("OWES nothing", x.state(0, 5), 0);
        int taken = x.count(TAKEN);
        Check.due("LINE 1", x.carry(1, 0, 2, 0), 1);
        Check.due("HANGING", x.count(HANGING), 1);
        Check.due("LINE 1", x.carry(1, 0, 0, 0), 0);
        Check.due("HANGING", x.count(HANGING), 2);
        Check.due("TAKEN", x.count(TAKEN), taken);
        Check.due("OWES by what HANGED", x.state(0, 5), 1);
        Check.due("SURE told", x.state(0, 7), 1);
        Check.due("near keeps", x.state(0, 3), 2);
    }

    private static void fullLines() {
        FarTypewriter x = Check.opened(0, 1, 1);
        x.key('a');
        Check.ticks(x, 40);
        Check.due("LINE 0", x.count(14), 40);
        Check.due("LOST", x.count(LOST), 0);
        Check.due("one more is sent", x.tick(), 1);
        Check.due("LINE 0", x.count(14), 40);
        Check.due("LOST", x.count(LOST), 1);
        Check.due("LETTERS", x.count(SENT), 41);
        Check.due("BYTES", x.count(BYTES), 41 * 11);
        Check.due("LAST", x.state(0, 4), 41);
        Check.due("letter(0, 40, 0)", x.letter(0, 40, 0), -1);
        x.carry(0, 39, 1, 0);
        Check.due("there is room again", x.tick(), 1);
        Check.due("LINE 0", x.count(14), 40);
        Check.due("LOST", x.count(LOST), 2);
        Check.due("all are handled", x.round(), 40);
        Check.due("TOOK", x.state(1, 0), 1);
    }

    private static void roaming() {
        FarTypewriter x = Check.opened(0, 1, 50);
        for (int address = 2; address <= 255; address++) {
            Check.due("roam()", x.roam(), address);
        }
        Check.due("roam() behind 255", x.roam(), 1);
        Check.due("roam()", x.roam(), 2);
        Check.due("ADDRESS", x.state(0, 6), 2);
        Check.due("the far end knows nothing of it", x.state(1, 6), 1);
        x.write('a');
        x.tick();
        Check.due("for ADDRESS 1", x.letter(1, 0, 2), 1);
        Check.due("carry", x.carry(1, 0, 0, 0), 0);
        Check.due("LOST", x.count(LOST), 1);
        Check.due("near NEWEST", x.state(0, 2), 0);
        x.carry(0, 0, 0, 0);
        Check.due("the far end answers to it", x.state(1, 6), 2);
        x.write('b');
        x.tick();
        Check.due("for ADDRESS 2", x.letter(1, 0, 2), 2);
        x.carry(1, 0, 0, 0);
        Check.due("alike()", x.alike(), true);
    }

    private static void olderLettersDoNotTurnTheAddress() {
        FarTypewriter x = Check.opened(0, 1, 50);
        x.key('a');
        x.tick();
        x.roam();
        x.key('b');
        x.tick();
        x.roam();
        x.tick();
        x.carry(0, 1, 0, 0);
        Check.due("answers to", x.state(1, 6), 2);
        x.carry(0, 0, 0, 0);
        Check.due("an older one was taken", x.state(1, 6), 2);
        x.carry(0, 0, 0, 0);
        Check.due("as many KEYS turn it", x.state(1, 6), 3);
    }

    private static void lostByAddressThatStays() {
        FarTypewriter x = Check.opened(0, 1, 50);
        x.write('a');
        x.tick();
        x.roam();
        Check.due("stays", x.carry(1, 0, 2, 0), 1);
        Check.due("LOST", x.count(LOST), 1);
        Check.due("TAKEN", x.count(TAKEN), 0);
        for (int i = 0; i < 254; i++) {
            x.roam();
        }
        Check.due("home again", x.state(0, 6), 1);
        Check.due("taken then", x.carry(1, 0, 0, 0), 0);
        Check.due("TAKEN", x.count(TAKEN), 1);
        Check.due("alike()", x.alike(), true);
    }

    private static void counting() {
        FarTypewriter x = Check.opened(0, 1, 1);
        Check.type(x, "ab");
        x.round();
        x.round();
        int[] want = {3, 12 + 12 + 21, 0, 0, 0, 3, 0, 2, 0, 0, 2, 0, 1, 1, 0, 0};
        for (int what = 0; what < want.length; what++) {
            Check.due("count(" + what + ")", x.count(what), want[what]);
        }
        x.key('c');
        x.tick();
        Check.due("GUESSES", x.count(11), 1);
        Check.due("LINE 0", x.count(14), 1);
        Check.due("LINE 1", x.count(15), 1);
        int[] none = {Integer.MIN_VALUE, -1, 16, Integer.MAX_VALUE};
        for (int what : none) {
            Check.due("count(" + what + ")", x.count(what), -1);
        }
    }

    private static void nothingIsTypedTwice() {
        FarTypewriter x = Check.opened(0, 1, 1);
        String text = "nothing is typed twice";
        for (int i = 0; i < text.length(); i++) {
            x.key(text.charAt(i));
            x.tick();
            for (int k = x.count(14) - 1; k >= 0; k -= 2) {
                x.carry(0, k, 2, 0);
            }
        }
        while (x.count(14) > 0) {
            x.carry(0, 0, 0, 0);
        }
        Check.row(x, 1, 0, 0, text);
        Check.due("TOOK", x.state(1, 0), text.length());
    }
}
