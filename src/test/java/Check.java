/** Compares answers with those that are due; a test ends with finish(). */
final class Check {
    private static int wrong = 0;

    static void due(String what, long got, long want) {
        if (got != want) {
            wrong++;
            System.out.println(what + " answered " + got + ", due is " + want);
        }
    }

    static void due(String what, boolean got, boolean want) {
        due(what, got ? 1 : 0, want ? 1 : 0);
    }

    /** The cells of a row from a column on, as a text. */
    static void row(FarTypewriter x, int end, int row, int column, String want) {
        StringBuilder got = new StringBuilder();
        for (int c = column; c < column + want.length(); c++) {
            got.append((char) x.cell(end, row, c, 0));
        }
        if (!got.toString().equals(want)) {
            wrong++;
            System.out.println("row " + row + " of end " + end + " is [" + got + "], due is [" + want + "]");
        }
    }

    static void cursor(FarTypewriter x, int end, int row, int column) {
        due("cursor(" + end + ", 0)", x.cursor(end, 0), row);
        due("cursor(" + end + ", 1)", x.cursor(end, 1), column);
    }

    /** All bytes of a LETTER but the SUM, and whether the SUM is theirs. */
    static void bytes(FarTypewriter x, int line, int k, int... want) {
        String name = "letter(" + line + ", " + k + ", ";
        due(name + "0)", x.letter(line, k, 0), want.length + 2);
        int c = 1;
        for (int i = 0; i < want.length; i++) {
            due(name + (1 + i) + ")", x.letter(line, k, 1 + i), want[i]);
            c = (31 * c + want[i]) % 65521;
        }
        due(name + "SUM high)", x.letter(line, k, 1 + want.length), c / 256);
        due(name + "SUM low)", x.letter(line, k, 2 + want.length), c % 256);
        due(name + "behind)", x.letter(line, k, 3 + want.length), -1);
    }

    static void type(FarTypewriter x, String keys) {
        for (char k : keys.toCharArray()) {
            x.key(k);
        }
    }

    static void print(FarTypewriter x, String signs) {
        for (char sign : signs.toCharArray()) {
            x.write(sign);
        }
    }

    static void ticks(FarTypewriter x, int n) {
        for (int i = 0; i < n; i++) {
            x.tick();
        }
    }

    static void rounds(FarTypewriter x, int n) {
        for (int i = 0; i < n; i++) {
            x.round();
        }
    }

    static FarTypewriter opened(int program, int frame, int again) {
        FarTypewriter x = new FarTypewriter();
        due("open(" + program + ", " + frame + ", " + again + ")", x.open(program, frame, again), true);
        return x;
    }

    static void finish() {
        if (wrong != 0) {
            System.out.println(wrong + " answers are not as due");
            System.exit(1);
        }
    }
}
