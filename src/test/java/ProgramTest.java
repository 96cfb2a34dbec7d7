/** Promises 3 and 4: the PROGRAMS, how they take keys, and what is a key. */
public final class ProgramTest {
    private static final char UP = 1;
    private static final char DOWN = 2;
    private static final char RIGHT = 3;
    private static final char LEFT = 4;

    public static void main(String[] args) {
        changing();
        whatIsAKey();
        echo();
        lines();
        linesAtColumn23();
        pass();
        passAtTheEdges();
        pager();
        theCountEndsWithTheProgram();
        Check.finish();
    }

    /** Types at the near end and lets the far end take it at once. */
    private static void typed(FarTypewriter x, String keys) {
        Check.type(x, keys);
        x.round();
    }

    private static void changing() {
        FarTypewriter x = new FarTypewriter();
        Check.due("program(-1)", x.program(-1), -1);
        Check.due("program(4)", x.program(4), -1);
        Check.due("program(min)", x.program(Integer.MIN_VALUE), -1);
        Check.due("program(max)", x.program(Integer.MAX_VALUE), -1);
        Check.due("program(3)", x.program(3), 0);
        Check.due("program(1)", x.program(1), 3);
        Check.due("program(1)", x.program(1), 1);
        Check.due("program(0)", x.program(0), 1);
    }

    private static void whatIsAKey() {
        FarTypewriter x = new FarTypewriter();
        int keys = 0;
        for (int k = -3; k <= 260; k++) {
            boolean can = k == 13 || k == 8 || (k >= 1 && k <= 4) || (k >= 32 && k <= 126);
            keys += can ? 1 : 0;
            Check.due("key(" + k + ")", x.key(k), can ? keys : -1);
        }
        Check.due("key(min)", x.key(Integer.MIN_VALUE), -1);
        Check.due("key(max)", x.key(Integer.MAX_VALUE), -1);
        Check.due("KEYS", x.state(0, 0), keys);
        for (int i = keys; i < 1000; i++) {
            x.key('a');
        }
        Check.due("there are 1000", x.key('a'), -1);
        Check.due("KEYS", x.state(0, 0), 1000);
    }

    private static void echo() {
        FarTypewriter x = Check.opened(0, 1, 1);
        typed(x, "ab\b" + "c\rd");
        Check.row(x, 1, 0, 0, "ac ");
        Check.row(x, 1, 1, 0, "d ");
        Check.cursor(x, 1, 1, 1);
        typed(x, "" + UP + UP + LEFT + LEFT);
        Check.cursor(x, 1, 0, 0);
        typed(x, "" + DOWN + RIGHT + RIGHT);
        Check.cursor(x, 1, 1, 2);
        x.move(7, 23);
        typed(x, "" + DOWN + RIGHT);
        Check.cursor(x, 1, 7, 23);
        x.pen(2);
        typed(x, "z");
        Check.row(x, 1, 6, 23, "z");
        Check.due("mark of z", x.cell(1, 6, 23, 1), 2);
        Check.row(x, 1, 0, 0, "d ");
        Check.cursor(x, 1, 7, 0);
    }

    private static void lines() {
        FarTypewriter x = Check.opened(1, 1, 1);
        x.pen(1);
        typed(x, "\ra");
        Check.row(x, 1, 1, 0, ">a ");
        Check.due("mark of >", x.cell(1, 1, 0, 1), 1);
        typed(x, "" + UP);
        Check.cursor(x, 1, 1, 2);
        typed(x, "" + DOWN);
        Check.cursor(x, 1, 1, 2);
        typed(x, "\b");
        Check.row(x, 1, 1, 0, ">  ");
        typed(x, "\b" + LEFT);
        Check.row(x, 1, 1, 0, ">  ");
        Check.cursor(x, 1, 1, 1);
        typed(x, "" + RIGHT + LEFT + LEFT);
        Check.cursor(x, 1, 1, 1);
        x.move(1, 0);
        typed(x, "\b" + LEFT);
        Check.cursor(x, 1, 1, 0);
        x.move(7, 5);
        typed(x, "\r");
        Check.cursor(x, 1, 7, 1);
        Check.row(x, 1, 0, 0, "> ");
        Check.row(x, 1, 7, 0, "> ");
    }

    private static void linesAtColumn23() {
        FarTypewriter x = Check.opened(1, 1, 1);
        x.move(2, 22);
        typed(x, "abc" + RIGHT);
        Check.row(x, 1, 2, 22, "a ");
        Check.cursor(x, 1, 2, 23);
        typed(x, "" + LEFT + "d");
        Check.row(x, 1, 2, 22, "d ");
        typed(x, "\b");
        Check.row(x, 1, 2, 22, "  ");
        Check.cursor(x, 1, 2, 22);
    }

    private static void pass() {
        FarTypewriter x = Check.opened(2, 1, 1);
        typed(x, "abc" + UP + DOWN + RIGHT + LEFT);
        Check.due("PASS counted", x.state(1, 7), 3);
        Check.cursor(x, 1, 0, 0);
        typed(x, "\b");
        Check.due("PASS counted", x.state(1, 7), 2);
        x.pen(3);
        typed(x, "\r");
        Check.row(x, 1, 0, 0, "** ");
        Check.due("mark of *", x.cell(1, 0, 1, 1), 3);
        Check.cursor(x, 1, 1, 0);
        Check.due("PASS counted", x.state(1, 7), 0);
        typed(x, "\b");
        Check.due("not below 0", x.state(1, 7), 0);
        typed(x, "\r");
        Check.cursor(x, 1, 2, 0);
    }

    private static void passAtTheEdges() {
        FarTypewriter x = Check.opened(2, 1, 1);
        typed(x, "abcdefghijklmnopqrstuvwxyz");
        Check.due("PASS counts up to 20", x.state(1, 7), 20);
        typed(x, "\b");
        Check.due("one less", x.state(1, 7), 19);
        x.move(7, 20);
        typed(x, "\r");
        Check.row(x, 1, 5, 20, "****");
        Check.row(x, 1, 6, 0, "*************** ");
        Check.cursor(x, 1, 7, 0);
    }

    private static void pager() {
        FarTypewriter x = Check.opened(3, 1, 1);
        x.write('a');
        x.move(1, 3);
        x.write('b');
        x.pen(2);
        typed(x, "q");
        Check.row(x, 1, 0, 0, "   b ");
        Check.row(x, 1, 7, 0, "qqqqqqqqqqqqqqqqqqqqqqqq");
        Check.due("first mark", x.cell(1, 7, 0, 1), 2);
        Check.due("last mark", x.cell(1, 7, 23, 1), 2);
        Check.cursor(x, 1, 7, 0);
        x.move(2, 2);
        typed(x, "\r\b" + UP + DOWN + RIGHT + LEFT);
        Check.cursor(x, 1, 2, 2);
        Check.row(x, 1, 7, 0, "q");
    }

    private static void theCountEndsWithTheProgram() {
        FarTypewriter x = Check.opened(2, 1, 1);
        typed(x, "abc");
        Check.due("program(4)", x.program(4), -1);
        Check.due("a refused program leaves the count", x.state(1, 7), 3);
        x.program(2);
        Check.due("PASS begins again", x.state(1, 7), 0);
        typed(x, "ab");
        x.program(0);
        Check.due("no PASS", x.state(1, 7), 0);
        typed(x, "c");
        Check.row(x, 1, 0, 0, "c ");
    }
}
