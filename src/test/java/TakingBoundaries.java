/** The edges of how LETTERS are carried and TAKEN: Terms III, and promises 12, 13 and 21. */
final class TakingBoundaries {
    private static final int MIN = Integer.MIN_VALUE;
    private static final int MAX = Integer.MAX_VALUE;
    private static final int LOST = 2;
    private static final int BENT = 3;
    private static final int HANGING = 4;
    private static final int TAKEN = 5;
    private static final int FORGED = 6;

    private TakingBoundaries() { }

    static void all() {
        Doc.term("III", 21, "each has up to 40 LETTERS in the order in which they were sent (one more is LOST at "
            + "once).", TakingBoundaries::a41stLetter);
        Doc.term("III", 12, "a LETTER whose bytes are not such (75 on LINE 0, 83 on LINE 1; SUM) is BENT;",
            TakingBoundaries::everyByteBent);
        Doc.term("III", 13, "one of LINE 1 whose ADDRESS is not the near end's is LOST;",
            TakingBoundaries::forAnotherAddress);
        Doc.term("III", 12, "one whose KNOWN is above TOOK", TakingBoundaries::knownIsNeverAboveTook);
        Doc.term("III", 12, "or whose SURE is no STATE that the near end KEEPS, HANGS (is not TAKEN).",
            TakingBoundaries::hanging);
        Doc.term("III", 12, "by the far end the keys behind TOOK are taken;", TakingBoundaries::noKeyTwice);
        Doc.term("III", 12, "if the STATE it tells is one that it KEEPS and above SURE, it is SURE, and those below "
            + "it go;", TakingBoundaries::sureOnlyRises);
        Doc.term("III", 13, "if the LETTER's KEYS are not less than in any one taken before, its ADDRESS is what the "
            + "far end answers to.", TakingBoundaries::fewerOrAsManyKeys);
        Doc.term("III", 18, "By the near end: those below SURE told go;", TakingBoundaries::belowSureTold);
        Doc.term("III", 17, "KNOWN becomes TOOK told, if that is greater;", TakingBoundaries::knownOnlyRises);
        Doc.term("III", 18, "if the number is above NEWEST's, the STATE (DIFF laid on that STATE) is KEPT.",
            TakingBoundaries::onlyNewerStates);
        Doc.term("III", 21, "FORGED counts LETTERS that are taken though a byte of them was made another one.",
            TakingBoundaries::noneIsForged);
        Doc.promise(12, "1 LOST;", TakingBoundaries::lost);
        Doc.promise(12, "2 TAKEN, and it stays;", TakingBoundaries::staying);
        Doc.promise(12, "3 byte arg / 256 of it becomes that ^ arg % 256, and it is TAKEN.",
            TakingBoundaries::leastAndGreatestByte);
        Doc.promise(12, "How many the LINE has then;", TakingBoundaries::howManyThen);
        Doc.promise(12, "NONE: no such LINE, LETTER, how, byte", TakingBoundaries::noSuchCarrying);
        Doc.promise(12, "or arg is below 0 (3).", TakingBoundaries::argBelow0);
        Doc.promise(13, "The near end has another ADDRESS (one more, behind 255 again 1): that.",
            TakingBoundaries::aroundAllAddresses);
        Doc.promise(21, "0 LETTERS sent, 1 bytes of them, 2 LOST, 3 BENT, 4 HANGING, 5 TAKEN (not BENT, LOST, "
            + "HANGING)", TakingBoundaries::fatesAreApart);
    }

    private static void a41stLetter() {
        FarTypewriter x = Check.opened(0, 1, 50);
        for (int i = 1; i <= 40; i++) {
            x.key('a');
            Check.due("tick " + i, x.tick(), 1);
        }
        Check.due("LINE 0", x.count(14), 40);
        Check.due("LOST", x.count(LOST), 0);
        for (int k = 0; k < 40; k++) {
            Check.due("KEYS of LETTER " + k, x.letter(0, k, 6), k + 1);
        }
        int bytes = x.count(1);
        x.key('c');
        Check.due("one more", x.tick(), 1);
        Check.due("LINE 0", x.count(14), 40);
        Check.due("LETTER 39 is as it was", x.letter(0, 39, 6), 40);
        Check.due("there is no LETTER 40", x.letter(0, 40, 0), -1);
        Check.due("LOST", x.count(LOST), 1);
        Check.due("LETTERS sent", x.count(0), 41);
        Check.due("bytes of it", x.count(1) - bytes, 8 + 41 + 2);
        Check.due("LAST", x.state(0, 4), 41);
        x.carry(0, 0, 1, 0);
        x.key('d');
        x.tick();
        Check.due("there is room again", x.letter(0, 39, 6), 42);
        Check.due("behind the one before", x.letter(0, 38, 6), 40);
        Check.due("LOST", x.count(LOST), 2);
        fullAgain(x);
        a41stLetterOfLine1();
    }

    /** The LINE was full; five LETTERS go and five come: their KEYS tell them apart. */
    private static void fullAgain(FarTypewriter x) {
        for (int i = 0; i < 5; i++) {
            Check.due("carry(0, 10, 1, 0)", x.carry(0, 10, 1, 0), 39 - i);
        }
        for (int i = 0; i < 5; i++) {
            x.key('e');
            x.tick();
        }
        Check.due("LINE 0", x.count(14), 40);
        for (int k = 0; k < 40; k++) {
            int keys = k < 10 ? k + 2 : k < 34 ? k + 7 : k + 8;
            Check.due("KEYS of LETTER " + k, x.letter(0, k, 6), keys);
        }
    }

    private static void a41stLetterOfLine1() {
        FarTypewriter x = Check.opened(0, 1, 1);
        for (int i = 1; i <= 40; i++) {
            x.write('a');
            x.tick();
        }
        Check.due("LINE 1", x.count(15), 40);
        for (int k = 0; k < 40; k++) {
            Check.due("STATE of LETTER " + k, x.letter(1, k, 6), Math.min(k + 1, 31));
        }
        Check.due("LOST", x.count(LOST), 0);
        x.tick();
        Check.due("LINE 1", x.count(15), 40);
        Check.due("LOST", x.count(LOST), 1);
        Check.due("LAST", x.state(1, 4), 41);
    }

    private static FarTypewriter withALetter(int line) {
        FarTypewriter x = Check.opened(0, 1, 50);
        if (line == 0) {
            x.key('a');
        } else {
            x.write('a');
        }
        Check.due("tick()", x.tick(), 1);
        return x;
    }

    private static void everyByteBent() {
        for (int line = 0; line < 2; line++) {
            int bytes = line == 0 ? 11 : 19;
            for (int arg = 0; arg < bytes * 256; arg++) {
                FarTypewriter x = withALetter(line);
                boolean bent = arg % 256 != 0;
                Check.due("carry(" + line + ", 0, 3, " + arg + ")", x.carry(line, 0, 3, arg), 0);
                Check.due("BENT by " + arg, x.count(BENT), bent ? 1 : 0);
                Check.due("TAKEN with " + arg, x.count(TAKEN), bent ? 0 : 1);
                Check.due("TOOK", x.state(1, 0), bent || line == 1 ? 0 : 1);
                Check.due("near NEWEST", x.state(0, 2), bent || line == 0 ? 0 : 1);
            }
        }
        FarTypewriter x = withALetter(1);
        x.roam();
        x.carry(1, 0, 3, 256 + 3);
        Check.due("BENT, even if its ADDRESS is now the near end's", x.count(BENT), 1);
        Check.due("not LOST", x.count(LOST), 0);
    }

    private static void forAnotherAddress() {
        FarTypewriter x = withALetter(1);
        Check.due("roam()", x.roam(), 2);
        x.carry(1, 0, 2, 0);
        Check.due("LOST", x.count(LOST), 1);
        Check.due("TAKEN", x.count(TAKEN), 0);
        Check.due("near NEWEST", x.state(0, 2), 0);
        for (int i = 0; i < 253; i++) {
            x.roam();
        }
        Check.due("ADDRESS", x.state(0, 6), 255);
        x.carry(1, 0, 2, 0);
        Check.due("LOST", x.count(LOST), 2);
        Check.due("roam()", x.roam(), 1);
        x.carry(1, 0, 0, 0);
        Check.due("LOST", x.count(LOST), 2);
        Check.due("TAKEN, as it has come around", x.count(TAKEN), 1);
        Check.due("alike()", x.alike(), true);
        FarTypewriter y = Check.opened(0, 1, 50);
        y.roam();
        y.tick();
        y.roam();
        y.carry(0, 0, 0, 0);
        Check.due("of LINE 0 it is TAKEN with any ADDRESS", y.count(TAKEN), 1);
    }

    /** The near end keeps STATES 1 and 2; the first LETTER of LINE 1 tells SURE 0, the second SURE 1. */
    private static FarTypewriter keeping1And2() {
        FarTypewriter x = withALetter(1);
        x.carry(1, 0, 2, 0);
        x.tick();
        x.carry(0, 0, 0, 0);
        x.write('b');
        x.tick();
        x.carry(1, 1, 2, 0);
        Check.each("kept(0, i), i", i -> x.kept(0, i), 1, 2, -1);
        Check.due("SURE of LETTER 0", x.letter(1, 0, 4), 0);
        Check.due("SURE of LETTER 1", x.letter(1, 1, 4), 1);
        return x;
    }

    /** The near end knows only what it was told: newest LETTERS first, no key of them HANGS. */
    private static void knownIsNeverAboveTook() {
        FarTypewriter x = Check.opened(0, 1, 1);
        for (int i = 0; i < 20; i++) {
            x.key('a' + i);
            x.tick();
            x.carry(0, x.count(14) - 1, 2, 0);
            x.carry(1, x.count(15) - 1, 2, 0);
            Check.due("KNOWN above TOOK", x.state(0, 1) > x.state(1, 0), false);
        }
        Check.due("KNOWN", x.state(0, 1) > 0, true);
        int left = x.count(14);
        int taken = x.count(TAKEN);
        for (int k = left - 1; k >= 0; k--) {
            x.carry(0, k, 0, 0);
        }
        Check.due("HANGING", x.count(HANGING), 0);
        Check.due("TAKEN", x.count(TAKEN), taken + left);
        Check.row(x, 1, 0, 0, "abcdefghijklmnopqrst ");
    }

    private static void hanging() {
        FarTypewriter x = keeping1And2();
        int taken = x.count(TAKEN);
        x.carry(1, 1, 2, 0);
        Check.due("SURE 1 is the least that is KEPT: TAKEN", x.count(TAKEN), taken + 1);
        Check.due("carry(1, 0, 2, 0)", x.carry(1, 0, 2, 0), 2);
        Check.due("SURE 0 HANGS", x.count(HANGING), 1);
        Check.due("carry(1, 0, 0, 0)", x.carry(1, 0, 0, 0), 1);
        Check.due("HANGING", x.count(HANGING), 2);
        Check.due("TAKEN", x.count(TAKEN), taken + 1);
        Check.due("SURE told of the last one taken", x.state(0, 7), 1);
        Check.each("kept(0, i), i", i -> x.kept(0, i), 1, 2, -1);
        Check.due("alike()", x.alike(), true);
        FarTypewriter y = keeping1And2();
        y.roam();
        y.carry(1, 0, 0, 0);
        Check.due("for another ADDRESS it is LOST", y.count(LOST), 1);
        Check.due("and does not HANG", y.count(HANGING), 0);
        hangingByTheStateThatWentLast();
    }

    /** Both LETTERS of LINE 1 tell STATE 1, which the near end has; the first SURE 0, the second SURE 1. */
    static FarTypewriter twoLettersOfState1() {
        FarTypewriter x = Check.opened(2, 1, 50);
        x.key('a');
        x.tick();
        x.carry(0, 0, 2, 0);
        x.tick();
        x.carry(1, 0, 2, 0);
        x.tick();
        x.carry(0, 1, 0, 0);
        x.carry(0, 0, 0, 0);
        x.tick();
        Check.each("SURE of LETTER", k -> x.letter(1, k, 4), 0, 1, -1);
        Check.each("STATE of LETTER", k -> x.letter(1, k, 6), 1, 1, -1);
        Check.each("kept(0, i), i", i -> x.kept(0, i), 0, 1, -1);
        return x;
    }

    /** STATE 0 goes without another one that comes; the LETTER that was taken from it comes again. */
    private static void hangingByTheStateThatWentLast() {
        FarTypewriter x = twoLettersOfState1();
        x.carry(1, 0, 2, 0);
        Check.due("STATE 0 is KEPT", x.count(HANGING), 0);
        x.carry(1, 1, 0, 0);
        x.carry(1, 0, 0, 0);
        Check.due("STATE 0 is KEPT no more", x.count(HANGING), 1);
    }

    private static void noKeyTwice() {
        FarTypewriter x = Check.opened(0, 1, 50);
        for (char k = 'a'; k <= 'd'; k++) {
            x.key(k);
            x.tick();
        }
        x.carry(0, 1, 2, 0);
        Check.row(x, 1, 0, 0, "ab  ");
        x.carry(0, 1, 2, 0);
        Check.row(x, 1, 0, 0, "ab  ");
        x.carry(0, 0, 2, 0);
        Check.row(x, 1, 0, 0, "ab  ");
        Check.due("TOOK", x.state(1, 0), 2);
        x.carry(0, 3, 2, 0);
        Check.row(x, 1, 0, 0, "abcd ");
        x.carry(0, 2, 2, 0);
        Check.due("TOOK", x.state(1, 0), 4);
        Check.row(x, 1, 0, 0, "abcd ");
        behindKnown(x);
    }

    /** A LETTER whose keys begin behind a KNOWN that is below TOOK, and one without keys. */
    private static void behindKnown(FarTypewriter x) {
        x.tick();
        x.carry(1, x.count(15) - 1, 0, 0);
        Check.due("KNOWN", x.state(0, 1), 4);
        x.key('e');
        x.tick();
        x.key('f');
        x.tick();
        int k = x.count(14) - 1;
        Check.due("bytes", x.letter(0, k, 0), 12);
        x.carry(0, k - 1, 0, 0);
        x.carry(0, k - 1, 0, 0);
        Check.row(x, 1, 0, 0, "abcdef ");
        Check.due("TOOK", x.state(1, 0), 6);
    }

    private static void sureOnlyRises() {
        FarTypewriter x = Check.opened(0, 1, 50);
        x.tick();
        for (int number = 1; number <= 3; number++) {
            x.write('a');
            x.tick();
            x.carry(1, 0, 0, 0);
        }
        x.tick();
        Check.due("LINE 0", x.count(14), 3);
        Check.each("the STATE told of LETTER", k -> x.letter(0, k, 8), 1, 2, 3);
        x.carry(0, 1, 2, 0);
        Check.due("SURE", x.state(1, 1), 2);
        Check.each("kept(1, i), i", i -> x.kept(1, i), 2, 3, -1);
        x.carry(0, 0, 2, 0);
        Check.due("a STATE below SURE", x.state(1, 1), 2);
        x.carry(0, 1, 2, 0);
        Check.due("the same STATE", x.state(1, 1), 2);
        Check.each("kept(1, i), i", i -> x.kept(1, i), 2, 3, -1);
        x.carry(0, 2, 2, 0);
        Check.due("NEWEST itself", x.state(1, 1), 3);
        Check.each("kept(1, i), i", i -> x.kept(1, i), 3, -1);
    }

    private static void fewerOrAsManyKeys() {
        FarTypewriter x = Check.opened(0, 1, 50);
        x.roam();
        x.tick();
        x.carry(0, 0, 2, 0);
        Check.due("the first, of 0 KEYS", x.state(1, 6), 2);
        x.roam();
        x.key('a');
        x.tick();
        x.roam();
        x.tick();
        x.carry(0, 1, 2, 0);
        Check.due("of 1 KEY", x.state(1, 6), 3);
        x.carry(0, 0, 2, 0);
        Check.due("of fewer KEYS", x.state(1, 6), 3);
        x.carry(0, 2, 2, 0);
        Check.due("of as many KEYS", x.state(1, 6), 4);
        x.carry(0, 1, 2, 0);
        Check.due("of as many KEYS, an older one", x.state(1, 6), 3);
    }

    private static void belowSureTold() {
        FarTypewriter x = keeping1And2();
        Check.due("SURE told", x.state(0, 7), 1);
        x.tick();
        x.carry(0, 0, 0, 0);
        Check.due("SURE", x.state(1, 1), 2);
        x.write('c');
        x.tick();
        x.carry(1, 2, 0, 0);
        Check.each("kept(0, i), i", i -> x.kept(0, i), 2, 3, -1);
        FarTypewriter y = withALetter(1);
        y.carry(1, 0, 0, 0);
        Check.each("none is below 0: kept(0, i), i", i -> y.kept(0, i), 0, 1, -1);
        FarTypewriter z = twoLettersOfState1();
        z.carry(1, 1, 0, 0);
        Check.due("SURE told, NEWEST itself", z.state(0, 7), 1);
        Check.each("kept(0, i), i", i -> z.kept(0, i), 1, -1);
    }

    private static void knownOnlyRises() {
        FarTypewriter x = Check.opened(0, 1, 50);
        x.write('x');
        x.tick();
        x.key('a');
        x.tick();
        x.carry(0, 0, 0, 0);
        x.tick();
        Check.each("TOOK of LETTER", k -> x.letter(1, k, 8), 0, 1);
        x.carry(1, 0, 2, 0);
        Check.due("0 told", x.state(0, 1), 0);
        x.carry(1, 1, 2, 0);
        Check.due("1 told", x.state(0, 1), 1);
        x.carry(1, 0, 0, 0);
        Check.due("0 told again", x.state(0, 1), 1);
        Check.due("TAKEN", x.count(TAKEN), 4);
    }

    private static void onlyNewerStates() {
        FarTypewriter x = Check.opened(0, 1, 50);
        for (int i = 0; i < 3; i++) {
            x.write('a' + i);
            x.tick();
        }
        x.carry(1, 1, 2, 0);
        Check.each("kept(0, i), i", i -> x.kept(0, i), 0, 2, -1);
        x.carry(1, 1, 2, 0);
        Check.each("the same: kept(0, i), i", i -> x.kept(0, i), 0, 2, -1);
        x.carry(1, 0, 2, 0);
        Check.each("an older one: kept(0, i), i", i -> x.kept(0, i), 0, 2, -1);
        Check.row(x, 0, 0, 0, "ab ");
        x.carry(1, 2, 2, 0);
        Check.each("kept(0, i), i", i -> x.kept(0, i), 0, 2, 3, -1);
        Check.row(x, 0, 0, 0, "abc ");
        fullNearEnd();
        laidOnTheStateThatIsSure();
    }

    /** Both DIFFS are from STATE 0; what the first one brought is not below the second. */
    private static void laidOnTheStateThatIsSure() {
        FarTypewriter x = Check.opened(0, 1, 50);
        Check.print(x, "ab");
        x.tick();
        x.wipe(0);
        x.write(13);
        x.tick();
        x.carry(1, 0, 0, 0);
        Check.row(x, 0, 0, 0, "ab ");
        Check.due("SURE told", x.letter(1, 0, 4), 0);
        x.carry(1, 0, 0, 0);
        Check.row(x, 0, 0, 0, "   ");
        Check.due("alike()", x.alike(), true);
    }

    /** The near end keeps 32 STATES as well, and the 33rd comes when the first one goes. */
    private static void fullNearEnd() {
        FarTypewriter x = Check.opened(0, 1, 50);
        for (int i = 0; i < 31; i++) {
            x.write('a');
            x.tick();
        }
        x.carry(1, 0, 0, 0);
        x.tick();
        for (int i = 0; i < 30; i++) {
            x.carry(1, 0, 0, 0);
        }
        Check.due("STATES kept", x.state(0, 3), 32);
        Check.due("kept(0, 31)", x.kept(0, 31), 31);
        x.carry(0, x.count(14) - 1, 0, 0);
        Check.due("SURE", x.state(1, 1), 1);
        x.write('b');
        x.tick();
        x.carry(1, 0, 0, 0);
        Check.due("STATES kept", x.state(0, 3), 32);
        for (int i = 0; i < 32; i++) {
            Check.due("kept(0, " + i + ")", x.kept(0, i), i + 1);
        }
        Check.due("alike()", x.alike(), true);
    }

    /** No single byte that is another one can pass the SUM; one that becomes itself is no other one. */
    private static void noneIsForged() {
        for (int line = 0; line < 2; line++) {
            int bytes = line == 0 ? 11 : 19;
            for (int arg = 0; arg < bytes * 256; arg++) {
                FarTypewriter x = withALetter(line);
                x.carry(line, 0, 3, arg);
                Check.due("FORGED by " + arg, x.count(FORGED), 0);
            }
        }
        FarTypewriter x = withALetter(0);
        x.carry(0, 0, 2, 0);
        x.carry(0, 0, 0, 0);
        Check.rounds(x, 3);
        Check.due("TAKEN as they were", x.count(TAKEN) > 3, true);
        Check.due("FORGED", x.count(FORGED), 0);
    }

    private static void lost() {
        FarTypewriter x = withALetter(0);
        Check.due("carry(0, 0, 1, 0)", x.carry(0, 0, 1, 0), 0);
        Check.due("LOST", x.count(LOST), 1);
        Check.due("TAKEN", x.count(TAKEN), 0);
        Check.due("TOOK", x.state(1, 0), 0);
        Check.due("carry of none", x.carry(0, 0, 1, 0), -1);
        Check.due("LOST", x.count(LOST), 1);
    }

    private static void staying() {
        FarTypewriter x = withALetter(0);
        int sum = x.letter(0, 0, 11);
        for (int i = 1; i <= 3; i++) {
            Check.due("carry(0, 0, 2, 0)", x.carry(0, 0, 2, 0), 1);
            Check.due("TAKEN", x.count(TAKEN), i);
            Check.due("TOOK", x.state(1, 0), 1);
        }
        Check.due("its last byte", x.letter(0, 0, 11), sum);
        Check.due("carry(0, 0, 0, 0)", x.carry(0, 0, 0, 0), 0);
        Check.due("carry(0, 0, 2, 0)", x.carry(0, 0, 2, 0), -1);
    }

    private static void leastAndGreatestByte() {
        int[] bent = {1, 255, 10 * 256 + 1, 10 * 256 + 255};
        for (int arg : bent) {
            FarTypewriter x = withALetter(0);
            Check.due("carry(0, 0, 3, " + arg + ")", x.carry(0, 0, 3, arg), 0);
            Check.due("BENT", x.count(BENT), 1);
        }
        for (int arg : new int[] {0, 10 * 256}) {
            FarTypewriter x = withALetter(0);
            Check.due("carry(0, 0, 3, " + arg + ")", x.carry(0, 0, 3, arg), 0);
            Check.due("BENT", x.count(BENT), 0);
            Check.due("TOOK", x.state(1, 0), 1);
        }
    }

    private static void howManyThen() {
        FarTypewriter x = Check.opened(0, 1, 50);
        for (int i = 0; i < 5; i++) {
            x.key('a' + i);
            x.tick();
        }
        Check.due("TAKEN, the last", x.carry(0, 4, 0, 0), 4);
        Check.due("staying", x.carry(0, 3, 2, 0), 4);
        Check.due("LOST, the first", x.carry(0, 0, 1, 0), 3);
        Check.due("BENT", x.carry(0, 1, 3, 1), 2);
        Check.each("KEYS of LETTER", k -> x.letter(0, k, 6), 2, 4, -1);
        Check.due("TAKEN", x.carry(0, 1, 0, 0), 1);
        Check.due("TAKEN", x.carry(0, 0, 0, 0), 0);
        Check.due("none is left", x.carry(0, 0, 0, 0), -1);
    }

    private static void noSuchCarrying() {
        FarTypewriter x = Check.opened(0, 1, 50);
        Check.refused(x, "carry of an empty LINE 0", () -> x.carry(0, 0, 0, 0), -1);
        Check.refused(x, "carry of an empty LINE 1", () -> x.carry(1, 0, 0, 0), -1);
        x.key('a');
        x.tick();
        int[][] none = {{-1, 0, 0, 0}, {2, 0, 0, 0}, {1, 0, 0, 0}, {0, -1, 0, 0}, {0, 1, 0, 0}, {0, 40, 1, 0},
            {0, 0, -1, 0}, {0, 0, 4, 0}, {0, 0, 3, 11 * 256}, {0, 0, 3, 11 * 256 + 1}, {0, 0, 3, MAX},
            {MIN, 0, 0, 0}, {MAX, 0, 0, 0}, {0, MIN, 0, 0}, {0, MAX, 0, 0}, {0, 0, MIN, 0}, {0, 0, MAX, 0},
            {0, 1, 2, 0}, {-1, 0, 2, 0}, {2, 0, 1, 0}, {1, 0, 3, 0}};
        for (int[] c : none) {
            String call = "carry(" + c[0] + ", " + c[1] + ", " + c[2] + ", " + c[3] + ")";
            Check.refused(x, call, () -> x.carry(c[0], c[1], c[2], c[3]), -1);
        }
    }

    private static void argBelow0() {
        FarTypewriter x = withALetter(0);
        for (int arg : new int[] {MIN, -257, -256, -255, -1}) {
            Check.refused(x, "carry(0, 0, 3, " + arg + ")", () -> x.carry(0, 0, 3, arg), -1);
        }
        Check.due("with how 2 arg is not looked at", x.carry(0, 0, 2, -1), 1);
        Check.due("with how 2 it may be large", x.carry(0, 0, 2, MAX), 1);
        Check.due("nor with how 0", x.carry(0, 0, 0, MIN), 0);
        Check.due("nor with how 1", withALetter(0).carry(0, 0, 1, -1), 0);
    }

    private static void aroundAllAddresses() {
        FarTypewriter x = Check.opened(0, 1, 50);
        for (int address = 2; address <= 255; address++) {
            Check.due("roam()", x.roam(), address);
        }
        Check.due("roam() behind 255", x.roam(), 1);
        Check.due("ADDRESS", x.state(0, 6), 1);
        Check.due("roam()", x.roam(), 2);
        Check.due("the far end answers to what it was told", x.state(1, 6), 1);
    }

    private static void fatesAreApart() {
        FarTypewriter x = keeping1And2();
        x.carry(1, 0, 0, 0);
        x.tick();
        x.carry(0, 0, 3, 1);
        x.roam();
        x.carry(1, 0, 2, 0);
        x.carry(1, 0, 1, 0);
        Check.each("count", x::count, 4, 19 + 10 + 19 + 10, 2, 1, 1, 3, 0);
        Check.due("LETTERS left", x.count(14) + x.count(15), 0);
    }
}
