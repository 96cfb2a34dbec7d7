/** Promises 5 to 9, and of 14 to 16 what the far SCREEN shows: write, move, wipe, scroll, pen. */
public final class ScreenTest {
    private static final int MIN = Integer.MIN_VALUE;
    private static final int MAX = Integer.MAX_VALUE;

    public static void main(String[] args) {
        writeSigns();
        writeAtTheEdges();
        back();
        moving();
        wiping();
        scrolling();
        pens();
        asking();
        alike();
        Check.finish();
    }

    private static void writeSigns() {
        FarTypewriter x = new FarTypewriter();
        for (int sign = -2; sign <= 260; sign++) {
            boolean can = sign == 13 || sign == 8 || (sign >= 32 && sign <= 126);
            Check.due("write(" + sign + ")", x.write(sign), can);
        }
        Check.due("write(min)", x.write(MIN), false);
        Check.due("write(max)", x.write(MAX), false);
        Check.row(x, 1, 1, 0, " !\"#$%&'()*+,-./01234567");
        Check.row(x, 1, 2, 0, "89:;<=>?@ABCDEFGHIJKLMNO");
        Check.row(x, 1, 4, 0, "hijklmnopqrstuvwxyz{|}~ ");
        Check.cursor(x, 1, 4, 23);
        Check.due("the near SCREEN is as before", x.cell(0, 2, 0, 0), 32);
    }

    private static void writeAtTheEdges() {
        FarTypewriter x = new FarTypewriter();
        x.move(0, 23);
        x.write('a');
        Check.cursor(x, 1, 1, 0);
        Check.row(x, 1, 0, 22, " a");
        x.move(6, 10);
        x.write(13);
        Check.cursor(x, 1, 7, 0);
        Check.row(x, 1, 0, 22, " a");
        x.write('b');
        x.write(13);
        Check.cursor(x, 1, 7, 0);
        Check.row(x, 1, 6, 0, "b ");
        Check.row(x, 1, 7, 0, "  ");
        Check.row(x, 1, 0, 22, "  ");
        x.move(7, 23);
        x.write('c');
        Check.cursor(x, 1, 7, 0);
        Check.row(x, 1, 5, 0, "b ");
        Check.row(x, 1, 6, 22, " c");
    }

    private static void back() {
        FarTypewriter x = new FarTypewriter();
        x.pen(2);
        Check.print(x, "ab");
        x.write(8);
        Check.cursor(x, 1, 0, 1);
        Check.row(x, 1, 0, 0, "a ");
        Check.due("BACK leaves no mark", x.cell(1, 0, 1, 1), 0);
        x.move(3, 0);
        Check.due("BACK in column 0", x.write(8), true);
        Check.cursor(x, 1, 3, 0);
        x.move(0, 0);
        x.write(8);
        Check.row(x, 1, 0, 0, "a ");
    }

    private static void moving() {
        FarTypewriter x = new FarTypewriter();
        int[][] refused = {{-1, 0}, {0, -1}, {8, 0}, {0, 24}, {MIN, 0}, {0, MAX}, {MAX, MIN}};
        x.move(2, 3);
        for (int[] place : refused) {
            Check.due("move(" + place[0] + ", " + place[1] + ")", x.move(place[0], place[1]), false);
            Check.cursor(x, 1, 2, 3);
        }
        Check.due("move(7, 23)", x.move(7, 23), true);
        Check.cursor(x, 1, 7, 23);
        Check.cursor(x, 0, 0, 0);
    }

    private static void wiping() {
        FarTypewriter x = new FarTypewriter();
        x.pen(1);
        Check.print(x, "abcdefghijklmnopqrstuvwxyz");
        x.move(4, 4);
        Check.due("wipe(-1)", x.wipe(-1), false);
        Check.due("wipe(8)", x.wipe(8), false);
        Check.due("wipe(min)", x.wipe(MIN), false);
        Check.due("wipe(max)", x.wipe(MAX), false);
        Check.due("wipe(7)", x.wipe(7), true);
        Check.due("wipe(0)", x.wipe(0), true);
        Check.row(x, 1, 0, 0, "                        ");
        Check.due("mark", x.cell(1, 0, 0, 1), 0);
        Check.due("last mark", x.cell(1, 0, 23, 1), 0);
        Check.row(x, 1, 1, 0, "yz ");
        Check.due("mark below", x.cell(1, 1, 1, 1), 1);
        Check.cursor(x, 1, 4, 4);
    }

    private static void scrolling() {
        FarTypewriter x = new FarTypewriter();
        x.pen(3);
        Check.print(x, "0\r1\r2\r3\r4\r5\r6\r7");
        Check.due("scroll(0)", x.scroll(0), false);
        Check.due("scroll(-1)", x.scroll(-1), false);
        Check.due("scroll(9)", x.scroll(9), false);
        Check.due("scroll(min)", x.scroll(MIN), false);
        Check.due("scroll(max)", x.scroll(MAX), false);
        Check.row(x, 1, 0, 0, "0");
        Check.due("scroll(3)", x.scroll(3), true);
        Check.row(x, 1, 0, 0, "3");
        Check.row(x, 1, 4, 0, "7");
        Check.row(x, 1, 5, 0, " ");
        Check.due("the mark went along", x.cell(1, 4, 0, 1), 3);
        Check.due("BLANK comes", x.cell(1, 7, 0, 1), 0);
        Check.cursor(x, 1, 7, 1);
        Check.due("scroll(1)", x.scroll(1), true);
        Check.row(x, 1, 3, 0, "7");
        Check.due("scroll(8)", x.scroll(8), true);
        Check.row(x, 1, 0, 0, " ");
        Check.row(x, 1, 4, 0, " ");
    }

    private static void pens() {
        FarTypewriter x = new FarTypewriter();
        Check.due("pen(-1)", x.pen(-1), -1);
        Check.due("pen(4)", x.pen(4), -1);
        Check.due("pen(min)", x.pen(MIN), -1);
        Check.due("pen(max)", x.pen(MAX), -1);
        Check.due("pen(3)", x.pen(3), 0);
        x.write('a');
        Check.due("pen(1)", x.pen(1), 3);
        x.write(' ');
        Check.due("pen(0)", x.pen(0), 1);
        x.write('b');
        Check.due("mark of a", x.cell(1, 0, 0, 1), 3);
        Check.due("mark of a space", x.cell(1, 0, 1, 1), 1);
        Check.due("mark of b", x.cell(1, 0, 2, 1), 0);
    }

    private static void asking() {
        FarTypewriter x = new FarTypewriter();
        int[][] none = {{-1, 0, 0, 0}, {4, 0, 0, 0}, {0, -1, 0, 0}, {1, 8, 0, 0}, {2, 0, -1, 0},
            {3, 0, 24, 0}, {0, 0, 0, -1}, {0, 0, 0, 2}, {MIN, 0, 0, 0}, {1, MAX, MAX, 0}, {3, MIN, 0, MAX}};
        for (int[] ask : none) {
            Check.due("cell of none", x.cell(ask[0], ask[1], ask[2], ask[3]), -1);
        }
        int[][] noCursor = {{-1, 0}, {4, 0}, {0, -1}, {0, 2}, {3, 2}, {MIN, MIN}, {MAX, MAX}};
        for (int[] ask : noCursor) {
            Check.due("cursor of none", x.cursor(ask[0], ask[1]), -1);
        }
    }

    private static void alike() {
        FarTypewriter x = Check.opened(0, 1, 1);
        x.move(0, 1);
        Check.due("alike with another cursor", x.alike(), false);
        x.move(0, 0);
        Check.due("alike", x.alike(), true);
        x.pen(1);
        x.write(' ');
        x.move(0, 0);
        Check.due("alike with another mark", x.alike(), false);
        x.wipe(0);
        Check.due("alike again", x.alike(), true);
        x.write('q');
        Check.due("alike with another letter", x.alike(), false);
        x.round();
        Check.due("alike behind a round", x.alike(), true);
        Check.due("mark told", x.cell(0, 0, 0, 1), 1);
    }
}
