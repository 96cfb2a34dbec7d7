import java.util.Arrays;

/**
 * A far typewriter: one types here, the program runs there. A bad line carries keys one way and
 * screens, as differences of states, the other; what is typed is shown ahead of its echo.
 */
public final class FarTypewriter {
    public static final int NONE = -1;

    private static final int NO_GUESS = -2;

    private static final int ROWS = 8;
    private static final int COLUMNS = 24;
    private static final int LAST_ROW = 7;
    private static final int LAST_COLUMN = 23;
    private static final int MARK_STEP = 128;
    private static final int BLANK = 32;
    private static final int GUESS_MARK = 3;
    private static final int MOST_MARK = 3;

    private static final int FIRST_SIGN = 32;
    private static final int LAST_SIGN = 126;
    private static final int ENTER = 13;
    private static final int RUBOUT = 8;
    private static final int UP = 1;
    private static final int DOWN = 2;
    private static final int RIGHT = 3;
    private static final int LEFT = 4;

    private static final int ECHO = 0;
    private static final int LINES = 1;
    private static final int PASS = 2;
    private static final int PAGER = 3;
    private static final int MOST_PASS = 20;

    private static final int MOST_KEYS = 1000;
    private static final int MOST_STATES = 32;
    private static final int MOST_GUESSES = 60;
    private static final int MOST_LETTERS = 40;

    private static final int KEYS_KIND = 75;
    private static final int SCREEN_KIND = 83;
    private static final int KEYS_START = 8;
    private static final int DIFF_START = 10;
    private static final int SUM_BYTES = 2;
    private static final int SHORTEST = 10;
    private static final int LONGEST = KEYS_START + MOST_KEYS + SUM_BYTES;

    private static final int TO_FAR = 0;
    private static final int TAKING = 0;
    private static final int LOSING = 1;
    private static final int STAYING = 2;
    private static final int BENDING = 3;

    /* Places in the tally; a LETTER's fate is one of them, so that it can be counted as it is. */
    private static final int SENT = 0;
    private static final int BYTES = 1;
    private static final int LOST = 2;
    private static final int BENT = 3;
    private static final int HANGING = 4;
    private static final int TAKEN = 5;
    private static final int FORGED = 6;
    private static final int TALLIES = 7;

    private final NearEnd near = new NearEnd();
    private final FarEnd far = new FarEnd();
    private final Line toFar = new Line();
    private final Line toNear = new Line();
    private final Letter draft = new Letter(LONGEST);
    private final int[] tally = new int[TALLIES];
    private int clock;
    private int frame;
    private int again;

    public FarTypewriter() {
        startOver(ECHO, 2, 5);
    }

    public boolean open(int program, int frame, int again) {
        boolean can = isProgram(program) && frame >= 1 && frame <= 20 && again >= frame && again <= 50;
        if (can) {
            startOver(program, frame, again);
        }
        return can;
    }

    public int program(int p) {
        if (!isProgram(p)) {
            return NONE;
        }
        int before = far.program;
        far.program = p;
        far.passed = 0;
        return before;
    }

    public int key(int k) {
        return isKey(k) ? near.type(k, far.program == PASS) : NONE;
    }

    public boolean write(int sign) {
        if (isSign(sign)) {
            far.screen.putSign(sign, far.pen);
        } else if (sign == ENTER) {
            far.screen.newLine();
        } else if (sign == RUBOUT) {
            far.screen.rubOut();
        } else {
            return false;
        }
        return true;
    }

    public boolean move(int row, int column) {
        boolean can = isPlace(row, column);
        if (can) {
            far.screen.row = row;
            far.screen.column = column;
        }
        return can;
    }

    public boolean wipe(int row) {
        boolean can = isPlace(row, 0);
        if (can) {
            far.screen.fillRow(row, BLANK);
        }
        return can;
    }

    public boolean scroll(int n) {
        boolean can = n >= 1 && n <= ROWS;
        if (can) {
            far.screen.scrollBy(n);
        }
        return can;
    }

    public int pen(int mark) {
        if (mark < 0 || mark > MOST_MARK) {
            return NONE;
        }
        int before = far.pen;
        far.pen = mark;
        return before;
    }

    public int tick() {
        return runTick();
    }

    public int round() {
        runTick();
        int handled = 0;
        for (int line = 0; line < 2; line++) {
            Line from = line == TO_FAR ? toFar : toNear;
            for (int k = 0; k < from.size; k++) {
                deliver(line, from.find(k), false);
            }
            handled += from.size;
            from.size = 0;
        }
        return handled;
    }

    public int carry(int line, int k, int how, int arg) {
        Line from = lineOf(line);
        Letter carried = from == null ? null : from.find(k);
        if (carried == null || !canCarry(carried, how, arg)) {
            return NONE;
        }
        boolean changed = how == BENDING && carried.bend(arg / 256, arg % 256);
        if (how != STAYING) {
            from.takeOut(k);
        }
        if (how == LOSING) {
            tally[LOST]++;
        } else {
            deliver(line, carried, changed);
        }
        return from.size;
    }

    public int roam() {
        near.address = near.address >= 255 ? 1 : near.address + 1;
        near.owes = true;
        return near.address;
    }

    public int cell(int end, int row, int column, int what) {
        if (end < 0 || end > 3 || !isPlace(row, column) || what < 0 || what > 1) {
            return NONE;
        }
        int guessed = end >= 2 ? near.guesses.signAt(row, column, end == 2) : NONE;
        if (guessed != NONE) {
            return what == 0 ? guessed : GUESS_MARK;
        }
        Screen seen = end == 1 ? far.screen : near.states.newest.screen;
        int found = seen.at(row, column);
        return what == 0 ? found % MARK_STEP : found / MARK_STEP;
    }

    public int cursor(int end, int axis) {
        if (end < 0 || end > 3 || axis < 0 || axis > 1) {
            return NONE;
        }
        Guess last = end >= 2 ? near.guesses.lastLaid(end == 2) : null;
        if (last != null) {
            return axis == 0 ? last.rowBehind : last.columnBehind;
        }
        Screen seen = end == 1 ? far.screen : near.states.newest.screen;
        return axis == 0 ? seen.row : seen.column;
    }

    public boolean alike() {
        return near.states.newest.screen.isLike(far.screen);
    }

    public int state(int end, int what) {
        if (end == 0) {
            return near.report(what);
        }
        return end == 1 ? far.report(what) : NONE;
    }

    public int kept(int end, int i) {
        if (end < 0 || end > 1) {
            return NONE;
        }
        State found = end == 0 ? near.states.find(i) : far.states.find(i);
        return found == null ? NONE : found.number;
    }

    public int guess(int i, int what) {
        return near.guesses.report(i, what);
    }

    public int letter(int line, int k, int what) {
        Line from = lineOf(line);
        Letter found = from == null ? null : from.find(k);
        if (found == null || what < 0) {
            return NONE;
        }
        return what == 0 ? found.length : found.at(what - 1);
    }

    public int count(int what) {
        if (what >= 0 && what < TALLIES) {
            return tally[what];
        }
        switch (what) {
            case 7:
                return near.guesses.right;
            case 8:
                return near.guesses.wrong;
            case 9:
                return near.guesses.takenBack;
            case 10:
                return clock;
            case 11:
                return near.guesses.size;
            case 12:
                return near.guesses.confirmed;
            case 13:
                return near.guesses.age;
            case 14:
                return toFar.size;
            case 15:
                return toNear.size;
            default:
                return NONE;
        }
    }

    private void startOver(int program, int frame, int again) {
        this.frame = frame;
        this.again = again;
        clock = 0;
        Arrays.fill(tally, 0);
        toFar.size = 0;
        toNear.size = 0;
        near.reset();
        far.reset(program);
    }

    private int runTick() {
        clock++;
        int sent = 0;
        far.keepState();
        if (far.isDue(clock, frame, again)) {
            far.compose(draft, clock);
            send(toNear);
            sent++;
        }
        if (near.isDue(clock, frame, again)) {
            near.compose(draft, clock);
            send(toFar);
            sent++;
        }
        return sent;
    }

    private void send(Line line) {
        tally[SENT]++;
        tally[BYTES] += draft.length;
        if (!line.append(draft)) {
            tally[LOST]++;
        }
    }

    private void deliver(int line, Letter brought, boolean changed) {
        if (brought == null) {
            return;
        }
        int fate = line == TO_FAR ? far.take(brought) : near.take(brought);
        if (fate >= 0 && fate < TALLIES) {
            tally[fate]++;
        }
        if (fate == TAKEN && changed) {
            tally[FORGED]++;
        }
    }

    private Line lineOf(int line) {
        if (line == TO_FAR) {
            return toFar;
        }
        return line == 1 ? toNear : null;
    }

    private static boolean canCarry(Letter carried, int how, int arg) {
        if (how == BENDING) {
            return arg >= 0 && arg / 256 < carried.length;
        }
        return how >= TAKING && how <= STAYING;
    }

    private static boolean isProgram(int p) {
        return p >= ECHO && p <= PAGER;
    }

    private static boolean isSign(int k) {
        return k >= FIRST_SIGN && k <= LAST_SIGN;
    }

    private static boolean isKey(int k) {
        return isSign(k) || k == ENTER || k == RUBOUT || (k >= UP && k <= LEFT);
    }

    private static boolean isPlace(int row, int column) {
        return row >= 0 && row < ROWS && column >= 0 && column < COLUMNS;
    }

    /** A CELL is held as one number: its letter, and its mark times MARK_STEP. */
    static final class Screen {
        final int[] cells = new int[ROWS * COLUMNS];
        int row;
        int column;

        Screen() {
            Arrays.fill(cells, BLANK);
        }

        void clear() {
            Arrays.fill(cells, BLANK);
            row = 0;
            column = 0;
        }

        void copyFrom(Screen other) {
            System.arraycopy(other.cells, 0, cells, 0, ROWS * COLUMNS);
            row = other.row;
            column = other.column;
        }

        boolean isLike(Screen other) {
            for (int i = 0; i < ROWS * COLUMNS; i++) {
                if (cells[i] != other.cells[i]) {
                    return false;
                }
            }
            return row == other.row && column == other.column;
        }

        /** Places off the screen read as BLANK: rows that a SCROLL brings in from below are such. */
        int at(int r, int c) {
            return r >= 0 && r < ROWS && c >= 0 && c < COLUMNS ? cells[r * COLUMNS + c] : BLANK;
        }

        void set(int r, int c, int value) {
            if (r >= 0 && r < ROWS && c >= 0 && c < COLUMNS) {
                cells[r * COLUMNS + c] = value;
            }
        }

        void putSign(int sign, int mark) {
            set(row, column, mark * MARK_STEP + sign);
            if (column >= LAST_COLUMN) {
                newLine();
            } else {
                column++;
            }
        }

        void newLine() {
            column = 0;
            if (row >= LAST_ROW) {
                scrollBy(1);
            } else {
                row++;
            }
        }

        void rubOut() {
            if (column > 0) {
                column--;
                set(row, column, BLANK);
            }
        }

        void step(int down, int on) {
            int r = row + down;
            int c = column + on;
            if (r >= 0 && r < ROWS && c >= 0 && c < COLUMNS) {
                row = r;
                column = c;
            }
        }

        void scrollBy(int n) {
            if (n < 0 || n > ROWS) {
                return;
            }
            int gone = n * COLUMNS;
            int all = ROWS * COLUMNS;
            for (int i = 0; i < all; i++) {
                cells[i] = i + gone < all ? cells[i + gone] : BLANK;
            }
        }

        void fillRow(int r, int value) {
            for (int c = 0; c < COLUMNS; c++) {
                set(r, c, value);
            }
        }
    }

    static final class State {
        final Screen screen = new Screen();
        int number;
        int took;

        void become(int number, int took) {
            this.number = number;
            this.took = took;
        }
    }

    /** The STATES that an end KEEPS. Those that went wait behind the last one, to be used again. */
    static final class States {
        private final State[] rows = new State[MOST_STATES];
        State newest = new State();
        int size = 1;

        States() {
            rows[0] = newest;
        }

        void reset() {
            State first = rows[0];
            if (first == null) {
                return;
            }
            first.screen.clear();
            first.become(0, 0);
            newest = first;
            size = 1;
        }

        State find(int i) {
            return i >= 0 && i < size && i < MOST_STATES ? rows[i] : null;
        }

        State findNumber(int number) {
            for (int i = 0; i < size && i < MOST_STATES; i++) {
                State one = rows[i];
                if (one != null && one.number == number) {
                    return one;
                }
            }
            return null;
        }

        boolean isFull() {
            return size >= MOST_STATES;
        }

        /** Keeps a new STATE and makes it NEWEST; its screen is a copy. */
        void keep(int number, int took, Screen screen) {
            if (size < 0 || size >= MOST_STATES) {
                return;
            }
            State next = rows[size];
            if (next == null) {
                next = new State();
                rows[size] = next;
            }
            next.become(number, took);
            next.screen.copyFrom(screen);
            newest = next;
            size++;
        }

        void dropBelow(int number) {
            int gone = 0;
            while (gone < size - 1 && gone < MOST_STATES && isBelow(rows[gone], number)) {
                gone++;
            }
            for (int n = 0; n < gone; n++) {
                moveFirstBehind();
            }
            size -= gone;
        }

        private static boolean isBelow(State one, int number) {
            return one != null && one.number < number;
        }

        private void moveFirstBehind() {
            State first = rows[0];
            for (int i = 1; i < size && i < MOST_STATES; i++) {
                rows[i - 1] = rows[i];
            }
            if (size >= 1 && size <= MOST_STATES) {
                rows[size - 1] = first;
            }
        }
    }

    static final class Letter {
        private int[] bytes;
        int length;

        Letter(int room) {
            bytes = new int[Math.max(room, 0)];
        }

        void put(int value) {
            if (length >= 0 && length < bytes.length) {
                bytes[length] = value & 255;
                length++;
            }
        }

        void putNumber(int number) {
            put(number >> 8);
            put(number);
        }

        void seal() {
            putNumber(sumAhead(length));
        }

        int at(int i) {
            return i >= 0 && i < length && i < bytes.length ? bytes[i] : NONE;
        }

        int numberAt(int i) {
            return at(i) * 256 + at(i + 1);
        }

        boolean isWhole(int kind) {
            int end = length - SUM_BYTES;
            return length >= SHORTEST && at(0) == kind && sumAhead(end) == numberAt(end);
        }

        /** Whether the byte is another one than before. */
        boolean bend(int i, int bits) {
            if (i < 0 || i >= length || i >= bytes.length) {
                return false;
            }
            bytes[i] ^= bits;
            return bits != 0;
        }

        void copyFrom(Letter other) {
            if (bytes.length < other.length) {
                bytes = new int[other.length];
            }
            length = 0;
            for (int i = 0; i < other.length; i++) {
                put(other.at(i));
            }
        }

        private int sumAhead(int end) {
            int c = 1;
            for (int i = 0; i < end; i++) {
                c = (31 * c + at(i)) % 65521;
            }
            return c;
        }
    }

    /** The LETTERS under way. Those that left wait behind the last one, to be used again. */
    static final class Line {
        private final Letter[] letters = new Letter[MOST_LETTERS];
        int size;

        Letter find(int k) {
            return k >= 0 && k < size && k < MOST_LETTERS ? letters[k] : null;
        }

        boolean append(Letter draft) {
            if (size < 0 || size >= MOST_LETTERS) {
                return false;
            }
            Letter next = letters[size];
            if (next == null) {
                next = new Letter(draft.length);
                letters[size] = next;
            }
            next.copyFrom(draft);
            size++;
            return true;
        }

        void takeOut(int k) {
            if (k < 0 || k >= size || k >= MOST_LETTERS) {
                return;
            }
            Letter out = letters[k];
            for (int i = k + 1; i < size && i < MOST_LETTERS; i++) {
                letters[i - 1] = letters[i];
            }
            size--;
            if (size < MOST_LETTERS) {
                letters[size] = out;
            }
        }
    }

    static final class Guess {
        int key;
        int age;
        int row;
        int column;
        int sign;
        int rowBehind;
        int columnBehind;

        boolean isRight(State told) {
            if (sign != NONE) {
                return told.screen.at(row, column) % MARK_STEP == sign;
            }
            return key < told.took || (told.screen.row == rowBehind && told.screen.column == columnBehind);
        }
    }

    static final class Guesses {
        private final Guess[] rows = new Guess[MOST_GUESSES];
        int size;
        int age = 1;
        int confirmed;
        int right;
        int wrong;
        int takenBack;

        void reset() {
            size = 0;
            age = 1;
            confirmed = 0;
            right = 0;
            wrong = 0;
            takenBack = 0;
        }

        /** What a typed key will do, by the screen that is GUESSED. */
        void foresee(int k, int number, Screen seen) {
            Guess last = lastLaid(false);
            int row = last == null ? seen.row : last.rowBehind;
            int column = last == null ? seen.column : last.columnBehind;
            if (isSign(k)) {
                foreseeSign(k, number, row, column);
            } else if (k == RIGHT && column < LAST_COLUMN) {
                append(number, row, column + 1);
            } else if (k == LEFT && column > 0) {
                append(number, row, column - 1);
            } else if (k != RIGHT && k != LEFT) {
                age++;
            }
        }

        private void foreseeSign(int sign, int number, int row, int column) {
            boolean atEdge = column >= LAST_COLUMN;
            Guess made = append(number, row, atEdge ? column : column + 1);
            if (made == null) {
                return;
            }
            made.row = row;
            made.column = column;
            made.sign = sign;
            if (atEdge) {
                age++;
            }
        }

        private Guess append(int number, int rowBehind, int columnBehind) {
            if (size < 0 || size >= MOST_GUESSES) {
                return null;
            }
            Guess next = rows[size];
            if (next == null) {
                next = new Guess();
                rows[size] = next;
            }
            next.key = number;
            next.age = age;
            next.row = NONE;
            next.column = NONE;
            next.sign = NONE;
            next.rowBehind = rowBehind;
            next.columnBehind = columnBehind;
            size++;
            return next;
        }

        void settle(State told) {
            int gone = 0;
            boolean failed = false;
            while (gone < size && gone < MOST_GUESSES && !failed) {
                Guess one = rows[gone];
                if (one == null || one.key > told.took) {
                    break;
                }
                if (one.isRight(told)) {
                    right++;
                    confirmed = Math.max(confirmed, one.age);
                    gone++;
                } else {
                    failed = true;
                }
            }
            if (failed) {
                takeBackFrom(gone);
            } else {
                dropFirst(gone);
            }
        }

        private void takeBackFrom(int first) {
            wrong++;
            takenBack += size - first;
            size = 0;
            age++;
        }

        private void dropFirst(int gone) {
            for (int i = gone; i < size && i < MOST_GUESSES; i++) {
                swap(i, i - gone);
            }
            size -= gone;
        }

        private void swap(int i, int j) {
            if (i < 0 || i >= MOST_GUESSES || j < 0 || j >= MOST_GUESSES) {
                return;
            }
            Guess one = rows[i];
            rows[i] = rows[j];
            rows[j] = one;
        }

        Guess find(int i) {
            return i >= 0 && i < size && i < MOST_GUESSES ? rows[i] : null;
        }

        private boolean isLaid(Guess one, boolean onlyShown) {
            return one != null && (!onlyShown || one.age <= confirmed);
        }

        Guess lastLaid(boolean onlyShown) {
            for (int i = size - 1; i >= 0; i--) {
                Guess one = find(i);
                if (isLaid(one, onlyShown)) {
                    return one;
                }
            }
            return null;
        }

        int signAt(int row, int column, boolean onlyShown) {
            for (int i = size - 1; i >= 0; i--) {
                Guess one = find(i);
                if (isLaid(one, onlyShown) && one.row == row && one.column == column) {
                    return one.sign;
                }
            }
            return NONE;
        }

        int report(int i, int what) {
            Guess one = find(i);
            if (one == null) {
                return NO_GUESS;
            }
            switch (what) {
                case 0:
                    return one.key;
                case 1:
                    return one.age;
                case 2:
                    return one.row;
                case 3:
                    return one.column;
                case 4:
                    return one.sign;
                case 5:
                    return isLaid(one, true) ? 1 : 0;
                case 6:
                    return one.rowBehind;
                case 7:
                    return one.columnBehind;
                default:
                    return NO_GUESS;
            }
        }
    }

    static final class NearEnd {
        private final int[] keys = new int[MOST_KEYS];
        final States states = new States();
        final Guesses guesses = new Guesses();
        private final Screen laid = new Screen();
        private int typed;
        private int known;
        private int typedInLast;
        private int last;
        private int sureTold;
        boolean owes;
        int address = 1;

        void reset() {
            states.reset();
            guesses.reset();
            typed = 0;
            known = 0;
            typedInLast = 0;
            last = 0;
            sureTold = 0;
            owes = false;
            address = 1;
        }

        int type(int k, boolean unseen) {
            if (typed < 0 || typed >= MOST_KEYS) {
                return NONE;
            }
            keys[typed] = k;
            typed++;
            if (unseen) {
                guesses.age++;
            } else {
                guesses.foresee(k, typed, states.newest.screen);
            }
            return typed;
        }

        boolean isDue(int clock, int frame, int again) {
            int since = clock - last;
            if (since >= frame && (typed != typedInLast || owes)) {
                return true;
            }
            return (since >= again && known < typed) || since >= 4 * again;
        }

        void compose(Letter draft, int clock) {
            draft.length = 0;
            draft.put(KEYS_KIND);
            draft.put(address);
            draft.putNumber(known);
            draft.putNumber(typed);
            draft.putNumber(states.newest.number);
            for (int i = Math.max(known, 0); i < typed && i < MOST_KEYS; i++) {
                draft.put(keys[i]);
            }
            draft.seal();
            typedInLast = typed;
            last = clock;
            owes = false;
        }

        /** The LETTER's fate. */
        int take(Letter brought) {
            if (!brought.isWhole(SCREEN_KIND)) {
                return BENT;
            }
            if (brought.at(1) != address) {
                return LOST;
            }
            int sure = brought.numberAt(2);
            State base = states.findNumber(sure);
            if (base != null) {
                takeState(brought, sure, base);
            }
            owes = owes || sure < states.newest.number;
            return base == null ? HANGING : TAKEN;
        }

        private void takeState(Letter brought, int sure, State base) {
            int number = brought.numberAt(4);
            int took = brought.numberAt(6);
            sureTold = sure;
            states.dropBelow(sure);
            known = Math.max(known, took);
            if (number > states.newest.number && !states.isFull()) {
                laid.copyFrom(base.screen);
                Diff.lay(brought, laid);
                states.keep(number, took, laid);
                guesses.settle(states.newest);
            }
        }

        int report(int what) {
            switch (what) {
                case 0:
                    return typed;
                case 1:
                    return known;
                case 2:
                    return states.newest.number;
                case 3:
                    return states.size;
                case 4:
                    return last;
                case 5:
                    return owes ? 1 : 0;
                case 6:
                    return address;
                case 7:
                    return sureTold;
                default:
                    return NONE;
            }
        }
    }

    static final class FarEnd {
        final Screen screen = new Screen();
        final States states = new States();
        int program;
        int passed;
        int pen;
        private int took;
        private int sure;
        private int numberInLast;
        private int last;
        private int address = 1;
        private boolean owes;

        void reset(int program) {
            this.program = program;
            screen.clear();
            states.reset();
            passed = 0;
            pen = 0;
            took = 0;
            sure = 0;
            numberInLast = 0;
            last = 0;
            address = 1;
            owes = false;
        }

        void keepState() {
            State newest = states.newest;
            boolean changed = took != newest.took || !screen.isLike(newest.screen);
            if (changed && !states.isFull()) {
                states.keep(newest.number + 1, took, screen);
            }
        }

        boolean isDue(int clock, int frame, int again) {
            int since = clock - last;
            int number = states.newest.number;
            if (since >= frame && (number != numberInLast || owes)) {
                return true;
            }
            return since >= again && sure < number;
        }

        void compose(Letter draft, int clock) {
            State newest = states.newest;
            State base = states.findNumber(sure);
            draft.length = 0;
            draft.put(SCREEN_KIND);
            draft.put(address);
            draft.putNumber(sure);
            draft.putNumber(newest.number);
            draft.putNumber(newest.took);
            draft.put(newest.screen.row);
            draft.put(newest.screen.column);
            Diff.append(draft, base == null ? newest.screen : base.screen, newest.screen);
            draft.seal();
            numberInLast = newest.number;
            last = clock;
            owes = false;
        }

        /** The LETTER's fate. */
        int take(Letter brought) {
            if (!brought.isWhole(KEYS_KIND)) {
                return BENT;
            }
            int known = brought.numberAt(2);
            int typed = brought.numberAt(4);
            if (known > took) {
                return HANGING;
            }
            if (typed >= took) {
                address = brought.at(1);
            }
            for (int i = took; i < typed; i++) {
                press(brought.at(KEYS_START + i - known));
            }
            took = Math.max(took, typed);
            believe(brought.numberAt(6));
            owes = owes || known < took;
            return TAKEN;
        }

        private void believe(int number) {
            if (number > sure && states.findNumber(number) != null) {
                sure = number;
                states.dropBelow(number);
            }
        }

        private void press(int k) {
            if (program == PASS) {
                pressPass(k);
            } else if (program == PAGER) {
                pressPager(k);
            } else if (program == LINES && k == ENTER) {
                screen.newLine();
                screen.putSign('>', pen);
            } else if (program != LINES || !isLeftByLines(k)) {
                echo(k);
            }
        }

        private boolean isLeftByLines(int k) {
            if (k == RUBOUT || k == LEFT) {
                return screen.column <= 1;
            }
            return k == UP || k == DOWN || (isSign(k) && screen.column >= LAST_COLUMN);
        }

        private void echo(int k) {
            if (isSign(k)) {
                screen.putSign(k, pen);
            } else if (k == ENTER) {
                screen.newLine();
            } else if (k == RUBOUT) {
                screen.rubOut();
            } else if (k == UP || k == DOWN) {
                screen.step(k == UP ? -1 : 1, 0);
            } else if (k == RIGHT || k == LEFT) {
                screen.step(0, k == RIGHT ? 1 : -1);
            }
        }

        private void pressPass(int k) {
            if (isSign(k)) {
                passed = Math.min(passed + 1, MOST_PASS);
            } else if (k == RUBOUT) {
                passed = Math.max(passed - 1, 0);
            } else if (k == ENTER) {
                for (int i = 0; i < passed; i++) {
                    screen.putSign('*', pen);
                }
                screen.newLine();
                passed = 0;
            }
        }

        private void pressPager(int k) {
            if (isSign(k)) {
                screen.scrollBy(1);
                screen.fillRow(LAST_ROW, pen * MARK_STEP + k);
                screen.row = LAST_ROW;
                screen.column = 0;
            }
        }

        int report(int what) {
            switch (what) {
                case 0:
                    return took;
                case 1:
                    return sure;
                case 2:
                    return states.newest.number;
                case 3:
                    return states.size;
                case 4:
                    return last;
                case 5:
                    return owes ? 1 : 0;
                case 6:
                    return address;
                case 7:
                    return passed;
                default:
                    return NONE;
            }
        }
    }

    /** DIFF: how one screen becomes another, as the bytes of a LETTER. */
    static final class Diff {
        static void append(Letter draft, Screen a, Screen b) {
            int k = bestShift(a, b);
            draft.put(k);
            for (int row = 0; row < ROWS; row++) {
                int first = firstChange(a, b, k, row);
                if (first != NONE) {
                    appendRow(draft, b, row, first, lastChange(a, b, k, row));
                }
            }
        }

        private static void appendRow(Letter draft, Screen b, int row, int first, int last) {
            boolean uniform = isUniform(b, row, first, last);
            draft.put(row);
            draft.put(uniform ? 1 : 0);
            draft.put(first);
            draft.put(last);
            int end = uniform ? first : last;
            for (int c = first; c <= end; c++) {
                int value = b.at(row, c);
                draft.put(value % MARK_STEP);
                draft.put(value / MARK_STEP);
            }
        }

        private static int bestShift(Screen a, Screen b) {
            int best = 0;
            int fewest = bytesFor(a, b, 0);
            for (int k = 1; k <= ROWS; k++) {
                int bytes = bytesFor(a, b, k);
                if (bytes < fewest) {
                    fewest = bytes;
                    best = k;
                }
            }
            return best;
        }

        private static int bytesFor(Screen a, Screen b, int k) {
            int bytes = 1;
            for (int row = 0; row < ROWS; row++) {
                int first = firstChange(a, b, k, row);
                if (first != NONE) {
                    int last = lastChange(a, b, k, row);
                    bytes += isUniform(b, row, first, last) ? 6 : 4 + 2 * (last - first + 1);
                }
            }
            return bytes;
        }

        private static int firstChange(Screen a, Screen b, int k, int row) {
            for (int c = 0; c < COLUMNS; c++) {
                if (b.at(row, c) != a.at(row + k, c)) {
                    return c;
                }
            }
            return NONE;
        }

        private static int lastChange(Screen a, Screen b, int k, int row) {
            for (int c = LAST_COLUMN; c >= 0; c--) {
                if (b.at(row, c) != a.at(row + k, c)) {
                    return c;
                }
            }
            return NONE;
        }

        private static boolean isUniform(Screen b, int row, int first, int last) {
            for (int c = first + 1; c <= last; c++) {
                if (b.at(row, c) != b.at(row, first)) {
                    return false;
                }
            }
            return true;
        }

        /** Lays what a LETTER of the far end tells on the screen that it was taken from. */
        static void lay(Letter brought, Screen on) {
            on.scrollBy(brought.at(DIFF_START));
            int end = brought.length - SUM_BYTES;
            int i = DIFF_START + 1;
            while (i + 6 <= end) {
                boolean uniform = brought.at(i + 1) == 1;
                int width = brought.at(i + 3) - brought.at(i + 2) + 1;
                layRow(brought, i, on);
                i += uniform ? 6 : 4 + 2 * Math.max(width, 1);
            }
            int row = brought.at(8);
            int column = brought.at(9);
            if (isPlace(row, column)) {
                on.row = row;
                on.column = column;
            }
        }

        private static void layRow(Letter brought, int start, Screen on) {
            int row = brought.at(start);
            boolean uniform = brought.at(start + 1) == 1;
            int first = brought.at(start + 2);
            int last = brought.at(start + 3);
            int from = start + 4;
            for (int c = first; c <= last; c++) {
                on.set(row, c, brought.at(from) + MARK_STEP * brought.at(from + 1));
                from += uniform ? 0 : 2;
            }
        }
    }
}
