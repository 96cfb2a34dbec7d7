import java.util.function.BooleanSupplier;
import java.util.function.IntSupplier;
import java.util.function.IntUnaryOperator;

/** Compares answers with those that are due; a test ends with finish(). */
final class Check {
    private static int wrong = 0;
    private static String about = "";

    /** What the checks from now on are about; it stands ahead of each that fails. */
    static void about(String words) {
        about = words;
    }

    private static void fail(String what) {
        wrong++;
        System.out.println(about + what);
    }

    static void due(String what, long got, long want) {
        if (got != want) {
            fail(what + " answered " + got + ", due is " + want);
        }
    }

    static void due(String what, boolean got, boolean want) {
        due(what, got ? 1 : 0, want ? 1 : 0);
    }

    /** The cells of a row from a column on, as a text. */
    static void row(FarTypewriter x, int end, int row, int column, String want) {
        StringBuilder got = new StringBuilder();
        for (int c = column; c < column + want.length(); c++) {
            got.append((char) x.cell(end, row, c, 0));
        }
        if (!got.toString().equals(want)) {
            fail("row " + row + " of end " + end + " is [" + got + "], due is [" + want + "]");
        }
    }

    /** Several answers in a row: what is asked, from 0 on. */
    static void each(String call, IntUnaryOperator ask, int... want) {
        for (int i = 0; i < want.length; i++) {
            due(call + " " + i, ask.applyAsInt(i), want[i]);
        }
    }

    /** A call that is refused leaves all that can be asked as it was. */
    static void refused(FarTypewriter x, String call, IntSupplier made, int want) {
        String before = Whole.of(x);
        due(call, made.getAsInt(), want);
        String after = Whole.of(x);
        if (!after.equals(before)) {
            fail(call + " was refused, but changed " + before + " to " + after);
        }
    }

    static void refused(FarTypewriter x, String call, BooleanSupplier made) {
        refused(x, call, () -> made.getAsBoolean() ? 1 : 0, 0);
    }

    static void cursor(FarTypewriter x, int end, int row, int column) {
        due("cursor(" + end + ", 0)", x.cursor(end, 0), row);
        due("cursor(" + end + ", 1)", x.cursor(end, 1), column);
    }

    /** All bytes of a LETTER but the SUM, and whether the SUM is theirs. */
    static void bytes(FarTypewriter x, int line, int k, int... want) {
        String name = "letter(" + line + ", " + k + ", ";
        due(name + "0)", x.letter(line, k, 0), want.length + 2);
        int c = 1;
        for (int i = 0; i < want.length; i++) {
            due(name + (1 + i) + ")", x.letter(line, k, 1 + i), want[i]);
            c = (31 * c + want[i]) % 65521;
        }
        due(name + "SUM high)", x.letter(line, k, 1 + want.length), c / 256);
        due(name + "SUM low)", x.letter(line, k, 2 + want.length), c % 256);
        due(name + "behind)", x.letter(line, k, 3 + want.length), -1);
    }

    static void type(FarTypewriter x, String keys) {
        for (char k : keys.toCharArray()) {
            x.key(k);
        }
    }

    static void print(FarTypewriter x, String signs) {
        for (char sign : signs.toCharArray()) {
            x.write(sign);
        }
    }

    static void ticks(FarTypewriter x, int n) {
        for (int i = 0; i < n; i++) {
            x.tick();
        }
    }

    static void rounds(FarTypewriter x, int n) {
        for (int i = 0; i < n; i++) {
            x.round();
        }
    }

    static FarTypewriter opened(int program, int frame, int again) {
        FarTypewriter x = new FarTypewriter();
        due("open(" + program + ", " + frame + ", " + again + ")", x.open(program, frame, again), true);
        return x;
    }

    static void finish() {
        if (wrong != 0) {
            System.out.println(wrong + " answers are not as due");
            System.exit(1);
        }
    }
}
