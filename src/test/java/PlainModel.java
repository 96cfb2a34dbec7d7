import java.util.ArrayList;
import java.util.Arrays;
import java.util.List;

/**
 * The document once more, sentence by sentence and without thrift: screens are texts that are
 * never changed, all is copied. Only to be compared with FarTypewriter.
 */
final class PlainModel {
    /** Letters and marks are texts of 192 signs each. */
    record Picture(String letters, String marks, int row, int column) {
        static Picture first() {
            return new Picture(" ".repeat(192), "0".repeat(192), 0, 0);
        }

        Picture at(int r, int c) {
            return new Picture(letters, marks, r, c);
        }

        Picture with(int r, int c, int letter, int mark) {
            int i = r * 24 + c;
            return new Picture(letters.substring(0, i) + (char) letter + letters.substring(i + 1),
                marks.substring(0, i) + (char) ('0' + mark) + marks.substring(i + 1), row, column);
        }

        Picture scrolled(int n) {
            return new Picture(letters.substring(24 * n) + " ".repeat(24 * n),
                marks.substring(24 * n) + "0".repeat(24 * n), row, column);
        }

        Picture newline() {
            return row == 7 ? scrolled(1).at(7, 0) : at(row + 1, 0);
        }

        Picture letter(int sign, int pen) {
            Picture next = with(row, column, sign, pen);
            return column == 23 ? next.newline() : next.at(row, column + 1);
        }

        Picture back() {
            return column == 0 ? this : with(row, column - 1, 32, 0).at(row, column - 1);
        }

        Picture filled(int r, int sign, int mark) {
            Picture next = this;
            for (int c = 0; c < 24; c++) {
                next = next.with(r, c, sign, mark);
            }
            return next;
        }

        Picture stepped(int k) {
            int r = row + (k == 1 ? -1 : k == 2 ? 1 : 0);
            int c = column + (k == 3 ? 1 : k == 4 ? -1 : 0);
            return r < 0 || r > 7 || c < 0 || c > 23 ? this : at(r, c);
        }

        int letterAt(int r, int c) {
            return letters.charAt(r * 24 + c);
        }

        int markAt(int r, int c) {
            return marks.charAt(r * 24 + c) - '0';
        }

        String cell(int r, int c) {
            return letterAt(r, c) + "/" + markAt(r, c);
        }
    }

    record Told(int number, Picture picture, int took) { }

    /** A CELL of row -1 is none. */
    record Guessed(int key, int age, int row, int column, int letter, int rowBehind, int columnBehind) { }

    int program;
    int frame;
    int again;
    int pen;
    int passed;
    Picture screen;
    List<Integer> keys;
    List<Told> nearKept;
    List<Told> farKept;
    List<Guessed> guesses;
    List<List<Integer>> line0;
    List<List<Integer>> line1;
    int known;
    int took;
    int sure;
    int sureTold;
    int nearLast;
    int farLast;
    int keysSent;
    int numberSent;
    boolean nearOwes;
    boolean farOwes;
    int nearAddress;
    int farAddress;
    int mostKeysTaken;
    int age;
    int[] counts;

    PlainModel() {
        first(0, 2, 5);
    }

    private void first(int program, int frame, int again) {
        this.program = program;
        this.frame = frame;
        this.again = again;
        pen = passed = known = took = sure = sureTold = 0;
        nearLast = farLast = keysSent = numberSent = mostKeysTaken = 0;
        nearOwes = farOwes = false;
        nearAddress = farAddress = age = 1;
        screen = Picture.first();
        keys = new ArrayList<>();
        nearKept = new ArrayList<>(List.of(new Told(0, screen, 0)));
        farKept = new ArrayList<>(List.of(new Told(0, screen, 0)));
        guesses = new ArrayList<>();
        line0 = new ArrayList<>();
        line1 = new ArrayList<>();
        counts = new int[13];
    }

    boolean open(int p, int f, int a) {
        if (p < 0 || p > 3 || f < 1 || f > 20 || a < f || a > 50) {
            return false;
        }
        first(p, f, a);
        return true;
    }

    int program(int p) {
        if (p < 0 || p > 3) {
            return -1;
        }
        int before = program;
        program = p;
        passed = 0;
        return before;
    }

    private static boolean sign(int k) {
        return k >= 32 && k <= 126;
    }

    int key(int k) {
        if (!sign(k) && !List.of(13, 8, 1, 2, 3, 4).contains(k) || keys.size() == 1000) {
            return -1;
        }
        keys.add(k);
        guessFor(k);
        return keys.size();
    }

    private void guessFor(int k) {
        if (program == 2 || !sign(k) && k != 3 && k != 4) {
            age++;
            return;
        }
        int row = newest(nearKept).picture.row;
        int column = newest(nearKept).picture.column;
        for (Guessed g : guesses) {
            row = g.rowBehind;
            column = g.columnBehind;
        }
        if (guesses.size() == 60) {
            return;
        }
        if (sign(k)) {
            guesses.add(new Guessed(keys.size(), age, row, column, k, row, Math.min(column + 1, 23)));
            age += column == 23 ? 1 : 0;
        } else {
            int next = k == 3 ? column + 1 : column - 1;
            if (next >= 0 && next <= 23) {
                guesses.add(new Guessed(keys.size(), age, -1, -1, -1, row, next));
            }
        }
    }

    boolean write(int s) {
        if (sign(s)) {
            screen = screen.letter(s, pen);
        } else if (s == 13) {
            screen = screen.newline();
        } else if (s == 8) {
            screen = screen.back();
        } else {
            return false;
        }
        return true;
    }

    boolean move(int r, int c) {
        if (r < 0 || r > 7 || c < 0 || c > 23) {
            return false;
        }
        screen = screen.at(r, c);
        return true;
    }

    boolean wipe(int r) {
        if (r < 0 || r > 7) {
            return false;
        }
        screen = screen.filled(r, 32, 0);
        return true;
    }

    boolean scroll(int n) {
        if (n < 1 || n > 8) {
            return false;
        }
        screen = screen.scrolled(n);
        return true;
    }

    int pen(int mark) {
        if (mark < 0 || mark > 3) {
            return -1;
        }
        int before = pen;
        pen = mark;
        return before;
    }

    private static Told newest(List<Told> kept) {
        return kept.get(kept.size() - 1);
    }

    int tick() {
        int clock = ++counts[10];
        int before = counts[0];
        Told top = newest(farKept);
        if ((!screen.equals(top.picture) || took != top.took) && farKept.size() < 32) {
            top = new Told(top.number + 1, screen, took);
            farKept.add(top);
        }
        if (top.number != numberSent && clock - farLast >= frame || sure < top.number && clock - farLast >= again
            || farOwes && clock - farLast >= frame) {
            send(line1, farLetter(top));
            numberSent = top.number;
            farLast = clock;
            farOwes = false;
        }
        int size = keys.size();
        if (size != keysSent && clock - nearLast >= frame || known < size && clock - nearLast >= again
            || nearOwes && clock - nearLast >= frame || clock - nearLast >= 4 * again) {
            send(line0, nearLetter());
            keysSent = size;
            nearLast = clock;
            nearOwes = false;
        }
        return counts[0] - before;
    }

    private void send(List<List<Integer>> line, List<Integer> bytes) {
        counts[0]++;
        counts[1] += bytes.size();
        if (line.size() == 40) {
            counts[2]++;
        } else {
            line.add(bytes);
        }
    }

    private static void two(List<Integer> bytes, int n) {
        bytes.add(n / 256);
        bytes.add(n % 256);
    }

    private static int sum(List<Integer> ahead) {
        long c = 1;
        for (int b : ahead) {
            c = (31 * c + b) % 65521;
        }
        return (int) c;
    }

    private List<Integer> nearLetter() {
        List<Integer> bytes = new ArrayList<>(List.of(75, nearAddress));
        two(bytes, known);
        two(bytes, keys.size());
        two(bytes, newest(nearKept).number);
        bytes.addAll(keys.subList(known, keys.size()));
        two(bytes, sum(bytes));
        return bytes;
    }

    private static Told numbered(List<Told> kept, int number) {
        return kept.stream().filter(t -> t.number == number).findFirst().orElse(null);
    }

    private List<Integer> farLetter(Told top) {
        List<Integer> bytes = new ArrayList<>(List.of(83, farAddress));
        two(bytes, sure);
        two(bytes, top.number);
        two(bytes, top.took);
        bytes.add(top.picture.row);
        bytes.add(top.picture.column);
        bytes.addAll(diff(numbered(farKept, sure).picture, top.picture));
        two(bytes, sum(bytes));
        return bytes;
    }

    private static List<Integer> diff(Picture a, Picture b) {
        List<Integer> best = null;
        for (int k = 8; k >= 0; k--) {
            List<Integer> bytes = diffBy(a.scrolled(k), b, k);
            if (best == null || bytes.size() <= best.size()) {
                best = bytes;
            }
        }
        return best;
    }

    private static List<Integer> diffBy(Picture a, Picture b, int k) {
        List<Integer> bytes = new ArrayList<>(List.of(k));
        for (int r = 0; r < 8; r++) {
            List<Integer> other = new ArrayList<>();
            for (int c = 0; c < 24; c++) {
                if (!a.cell(r, c).equals(b.cell(r, c))) {
                    other.add(c);
                }
            }
            if (other.isEmpty()) {
                continue;
            }
            int first = other.get(0);
            int last = other.get(other.size() - 1);
            List<String> cells = new ArrayList<>();
            List<Integer> told = new ArrayList<>();
            for (int c = first; c <= last; c++) {
                cells.add(b.cell(r, c));
                told.addAll(List.of(b.letterAt(r, c), b.markAt(r, c)));
            }
            boolean uniform = cells.stream().distinct().count() == 1;
            bytes.addAll(List.of(r, uniform ? 1 : 0, first, last));
            bytes.addAll(uniform ? told.subList(0, 2) : told);
        }
        return bytes;
    }

    int round() {
        tick();
        List<List<Integer>> there = new ArrayList<>(line0);
        line0.clear();
        there.forEach(bytes -> arrive(0, bytes));
        List<List<Integer>> back = new ArrayList<>(line1);
        line1.clear();
        back.forEach(bytes -> arrive(1, bytes));
        return there.size() + back.size();
    }

    int carry(int line, int k, int how, int arg) {
        if (line < 0 || line > 1 || how < 0 || how > 3) {
            return -1;
        }
        List<List<Integer>> from = line == 0 ? line0 : line1;
        if (k < 0 || k >= from.size() || how == 3 && (arg < 0 || arg / 256 >= from.get(k).size())) {
            return -1;
        }
        List<Integer> bytes = how == 2 ? from.get(k) : from.remove(k);
        if (how == 1) {
            counts[2]++;
            return from.size();
        }
        int takenBefore = counts[5];
        if (how == 3) {
            bytes = new ArrayList<>(bytes);
            bytes.set(arg / 256, bytes.get(arg / 256) ^ arg % 256);
        }
        arrive(line, bytes);
        if (how == 3 && arg % 256 != 0) {
            counts[6] += counts[5] - takenBefore;
        }
        return from.size();
    }

    private static int number(List<Integer> bytes, int i) {
        return bytes.get(i) * 256 + bytes.get(i + 1);
    }

    private void arrive(int line, List<Integer> bytes) {
        int end = bytes.size() - 2;
        if (bytes.get(0) != (line == 0 ? 75 : 83) || sum(bytes.subList(0, end)) != number(bytes, end)) {
            counts[3]++;
        } else if (line == 0) {
            arriveFar(bytes);
        } else {
            arriveNear(bytes);
        }
    }

    private void arriveFar(List<Integer> bytes) {
        int toldKnown = number(bytes, 2);
        int toldKeys = number(bytes, 4);
        int toldState = number(bytes, 6);
        if (toldKnown > took) {
            counts[4]++;
            return;
        }
        counts[5]++;
        for (int n = toldKnown + 1; n <= toldKeys; n++) {
            if (n > took) {
                took = n;
                run(bytes.get(8 + n - toldKnown - 1));
            }
        }
        if (toldState > sure && numbered(farKept, toldState) != null) {
            sure = toldState;
            farKept.removeIf(t -> t.number < sure);
        }
        if (toldKeys >= mostKeysTaken) {
            mostKeysTaken = toldKeys;
            farAddress = bytes.get(1);
        }
        if (toldKnown < took) {
            farOwes = true;
        }
    }

    private void run(int k) {
        switch (program) {
            case 0 -> echo(k);
            case 1 -> {
                int column = screen.column;
                if (k == 13) {
                    screen = screen.newline().letter('>', pen);
                } else if (!(sign(k) && column == 23 || k == 1 || k == 2 || (k == 8 || k == 4) && column < 2)) {
                    echo(k);
                }
            }
            case 2 -> {
                if (k == 13) {
                    while (passed > 0) {
                        screen = screen.letter('*', pen);
                        passed--;
                    }
                    screen = screen.newline();
                } else if (k == 8 && passed > 0) {
                    passed--;
                } else if (sign(k) && passed < 20) {
                    passed++;
                }
            }
            default -> {
                if (sign(k)) {
                    screen = screen.scrolled(1).filled(7, k, pen).at(7, 0);
                }
            }
        }
    }

    private void echo(int k) {
        screen = sign(k) ? screen.letter(k, pen) : k == 13 ? screen.newline() : k == 8 ? screen.back()
            : screen.stepped(k);
    }

    private void arriveNear(List<Integer> bytes) {
        if (bytes.get(1) != nearAddress) {
            counts[2]++;
            return;
        }
        int toldSure = number(bytes, 2);
        Told base = numbered(nearKept, toldSure);
        if (base == null) {
            counts[4]++;
        } else {
            counts[5]++;
            sureTold = toldSure;
            nearKept.removeIf(t -> t.number < toldSure);
            known = Math.max(known, number(bytes, 6));
            if (number(bytes, 4) > newest(nearKept).number) {
                Picture next = laid(base.picture, bytes.subList(10, bytes.size() - 2));
                Told told = new Told(number(bytes, 4), next.at(bytes.get(8), bytes.get(9)), number(bytes, 6));
                nearKept.add(told);
                settle(told);
            }
        }
        if (toldSure < newest(nearKept).number) {
            nearOwes = true;
        }
    }

    private static Picture laid(Picture a, List<Integer> diff) {
        Picture next = a.scrolled(diff.get(0));
        int i = 1;
        while (i < diff.size()) {
            int row = diff.get(i);
            int form = diff.get(i + 1);
            int first = diff.get(i + 2);
            int last = diff.get(i + 3);
            i += 4;
            for (int c = first; c <= last; c++) {
                next = next.with(row, c, diff.get(i), diff.get(i + 1));
                i += form == 0 ? 2 : 0;
            }
            i += form == 1 ? 2 : 0;
        }
        return next;
    }

    private void settle(Told told) {
        while (!guesses.isEmpty() && guesses.get(0).key <= told.took) {
            Guessed g = guesses.get(0);
            boolean right = g.row >= 0 ? told.picture.letterAt(g.row, g.column) == g.letter
                : g.key < told.took || told.picture.row == g.rowBehind && told.picture.column == g.columnBehind;
            if (right) {
                counts[7]++;
                counts[12] = Math.max(counts[12], g.age);
                guesses.remove(0);
            } else {
                counts[8]++;
                counts[9] += guesses.size();
                guesses.clear();
                age++;
            }
        }
    }

    int roam() {
        nearAddress = nearAddress % 255 + 1;
        nearOwes = true;
        return nearAddress;
    }

    private Picture seen(int end) {
        Picture p = end == 1 ? screen : newest(nearKept).picture;
        if (end < 2) {
            return p;
        }
        for (Guessed g : guesses) {
            if (end == 3 || g.age <= counts[12]) {
                p = g.row < 0 ? p : p.with(g.row, g.column, g.letter, 3);
                p = p.at(g.rowBehind, g.columnBehind);
            }
        }
        return p;
    }

    int cell(int end, int r, int c, int what) {
        if (end < 0 || end > 3 || r < 0 || r > 7 || c < 0 || c > 23 || what < 0 || what > 1) {
            return -1;
        }
        return what == 0 ? seen(end).letterAt(r, c) : seen(end).markAt(r, c);
    }

    int cursor(int end, int axis) {
        if (end < 0 || end > 3 || axis < 0 || axis > 1) {
            return -1;
        }
        return axis == 0 ? seen(end).row : seen(end).column;
    }

    boolean alike() {
        return screen.equals(newest(nearKept).picture);
    }

    int state(int end, int what) {
        if (end < 0 || end > 1 || what < 0 || what > 7) {
            return -1;
        }
        int[] near = {keys.size(), known, newest(nearKept).number, nearKept.size(), nearLast, nearOwes ? 1 : 0,
            nearAddress, sureTold};
        int[] far = {took, sure, newest(farKept).number, farKept.size(), farLast, farOwes ? 1 : 0, farAddress,
            passed};
        return end == 0 ? near[what] : far[what];
    }

    int kept(int end, int i) {
        if (end < 0 || end > 1) {
            return -1;
        }
        List<Told> kept = end == 0 ? nearKept : farKept;
        return i < 0 || i >= kept.size() ? -1 : kept.get(i).number;
    }

    int guess(int i, int what) {
        if (i < 0 || i >= guesses.size() || what < 0 || what > 7) {
            return -2;
        }
        Guessed g = guesses.get(i);
        return List.of(g.key, g.age, g.row, g.column, g.letter, g.age <= counts[12] ? 1 : 0, g.rowBehind,
            g.columnBehind).get(what);
    }

    int letter(int line, int k, int what) {
        if (line < 0 || line > 1 || what < 0) {
            return -1;
        }
        List<List<Integer>> from = line == 0 ? line0 : line1;
        if (k < 0 || k >= from.size() || what > from.get(k).size()) {
            return -1;
        }
        return what == 0 ? from.get(k).size() : from.get(k).get(what - 1);
    }

    int count(int what) {
        if (what < 0 || what > 15) {
            return -1;
        }
        int[] all = Arrays.copyOf(counts, 16);
        all[11] = guesses.size();
        all[13] = age;
        all[14] = line0.size();
        all[15] = line1.size();
        return all[what];
    }
}
