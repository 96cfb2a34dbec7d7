/**
 * All that an object answers without being changed, as one text. It asks more often than the 512 calls
 * that the document promises; the class goes on answering.
 */
final class Whole {
    private Whole() { }

    static String of(FarTypewriter x) {
        StringBuilder all = new StringBuilder();
        screens(x, all);
        ends(x, all);
        counts(x, all);
        guesses(x, all);
        lines(x, all);
        return all.toString();
    }

    private static void screens(FarTypewriter x, StringBuilder all) {
        for (int end = 0; end < 4; end++) {
            all.append("\nscreen ").append(end).append(": ");
            all.append(x.cursor(end, 0)).append(' ').append(x.cursor(end, 1)).append(' ');
            for (int i = 0; i < 8 * 24; i++) {
                all.append((char) x.cell(end, i / 24, i % 24, 0)).append(x.cell(end, i / 24, i % 24, 1));
            }
        }
        all.append("\nalike ").append(x.alike());
    }

    private static void ends(FarTypewriter x, StringBuilder all) {
        for (int end = 0; end < 2; end++) {
            all.append("\nend ").append(end).append(':');
            for (int what = 0; what < 8; what++) {
                all.append(' ').append(x.state(end, what));
            }
            all.append(", kept:");
            for (int i = 0; i < x.state(end, 3); i++) {
                all.append(' ').append(x.kept(end, i));
            }
        }
    }

    private static void counts(FarTypewriter x, StringBuilder all) {
        all.append("\ncounts:");
        for (int what = 0; what < 16; what++) {
            all.append(' ').append(x.count(what));
        }
    }

    private static void guesses(FarTypewriter x, StringBuilder all) {
        for (int i = 0; i < x.count(11); i++) {
            all.append("\nguess:");
            for (int what = 0; what < 8; what++) {
                all.append(' ').append(x.guess(i, what));
            }
        }
    }

    private static void lines(FarTypewriter x, StringBuilder all) {
        for (int line = 0; line < 2; line++) {
            for (int k = 0; k < x.count(14 + line); k++) {
                all.append("\nletter of line ").append(line).append(':');
                for (int what = 0; what <= x.letter(line, k, 0); what++) {
                    all.append(' ').append(x.letter(line, k, what));
                }
            }
        }
    }
}
