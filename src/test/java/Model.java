import java.math.BigInteger;
import java.util.ArrayDeque;
import java.util.ArrayList;
import java.util.Deque;
import java.util.List;
import java.util.NoSuchElementException;
import java.util.TreeSet;
import java.util.regex.Matcher;
import java.util.regex.Pattern;

/**
 * The document told once more, as plainly as the Java library lets it be told and with nothing kept that can be
 * found out again: each question lays all words anew, cell by cell.
 */
final class Model {
    private static final class Part {
        final int kind;
        final List<String> words;

        Part(int kind, List<String> words) {
            this.kind = kind;
            this.words = words;
        }
    }

    /** A word and where it is laid; the row is -1 if it is missing. */
    private static final class Laid {
        final String word;
        final int part;
        int row = -1;
        int column = -1;

        Laid(String word, int part) {
            this.word = word;
            this.part = part;
        }
    }

    private static final class State {
        int columns = 10, rows = 4, gap = 0, sharp = 100, sharpenTime = 10, left = 100, time = 0, sharpened = 0, carved = 0;
        TreeSet<Integer> flaws = new TreeSet<>();
        List<Part> parts = new ArrayList<>();

        State copy() {
            State c = new State();
            c.columns = columns;
            c.rows = rows;
            c.gap = gap;
            c.sharp = sharp;
            c.sharpenTime = sharpenTime;
            c.left = left;
            c.time = time;
            c.sharpened = sharpened;
            c.carved = carved;
            c.flaws = new TreeSet<>(flaws);
            c.parts = new ArrayList<>(parts);
            return c;
        }

        boolean flaw(int column, int row) {
            return flaws.contains(100 * row + column);
        }

        boolean free(String word, int column, int row) {
            for (int c = column; c < column + word.length(); c++) {
                if (c >= columns || flaw(c, row)) {
                    return false;
                }
            }
            return true;
        }

        List<Laid> lay() {
            List<Laid> all = new ArrayList<>();
            boolean missing = false;
            int nextRow = 0;
            for (int p = 0; p < parts.size(); p++) {
                List<Laid> mine = new ArrayList<>();
                int row = nextRow;
                int column = 0;
                for (String word : parts.get(p).words) {
                    Laid laid = new Laid(word, p);
                    while (!missing && laid.row < 0) {
                        if (row >= rows) {
                            missing = true;
                        } else if (column >= columns) {
                            row++;
                            column = 0;
                        } else if (free(word, column, row)) {
                            laid.row = row;
                            laid.column = column;
                            nextRow = row + gap + 1;
                            column += word.length() + 1;
                        } else {
                            column++;
                        }
                    }
                    mine.add(laid);
                }
                if (parts.get(p).kind == 0 && !missing) {
                    for (int r = 0; r < rows; r++) {
                        middle(mine, r);
                    }
                }
                all.addAll(mine);
            }
            return all;
        }

        private void middle(List<Laid> name, int row) {
            List<Laid> mine = new ArrayList<>();
            int behind = 0;
            for (Laid laid : name) {
                if (laid.row == row) {
                    mine.add(laid);
                    behind = columns - (laid.column + laid.word.length());
                }
            }
            int best = 0;
            for (int by = 0; by <= behind / 2; by++) {
                boolean good = true;
                for (Laid laid : mine) {
                    good &= free(laid.word, laid.column + by, row);
                }
                best = good ? by : best;
            }
            for (Laid laid : mine) {
                laid.column += best;
            }
        }

        int laid() {
            int count = 0;
            for (Laid laid : lay()) {
                count += laid.row >= 0 ? 1 : 0;
            }
            return count;
        }

        boolean dear(int column, int row) {
            return flaw(column - 1, row) || flaw(column + 1, row) || flaw(column, row - 1) || flaw(column, row + 1);
        }

        /** For each letter that is laid its column, its row, its strokes and what of them is due to flaws. */
        List<int[]> letters() {
            List<int[]> letters = new ArrayList<>();
            for (Laid laid : lay()) {
                for (int i = 0; i < laid.word.length() && laid.row >= 0; i++) {
                    char sign = laid.word.charAt(i);
                    int plain = Character.isDigit(sign) ? 2 + (sign - '0') % 3 : 1 + (7 * (sign - 'a')) % 5;
                    int more = dear(laid.column + i, laid.row) ? plain : 0;
                    letters.add(new int[] {laid.column + i, laid.row, plain + more, more});
                }
            }
            return letters;
        }

        /** Carves at most so many letters, as long as the time does not go beyond the limit. */
        void cut(long count, long limit) {
            List<int[]> letters = letters();
            for (long n = 0; n < count && carved < letters.size(); n++) {
                int strokes = letters.get(carved)[2];
                boolean sharpen = left < strokes && left < sharp;
                long after = (long) time + strokes + (sharpen ? sharpenTime : 0);
                if (after > limit) {
                    return;
                }
                sharpened += sharpen ? 1 : 0;
                left = Math.max(0, (sharpen ? sharp : left) - strokes);
                time = (int) after;
                carved++;
            }
        }

        State turned() {
            State c = copy();
            c.flaws.clear();
            for (int flaw : flaws) {
                c.flaws.add(100 * (rows - 1 - flaw / 100) + columns - 1 - flaw % 100);
            }
            return c;
        }

        State moved(int part, int to) {
            State c = copy();
            c.parts.add(to, c.parts.remove(part));
            return c;
        }

        State without(int part) {
            State c = copy();
            c.parts.remove(part);
            return c;
        }

        boolean keepsCarved(State then) {
            List<Laid> now = lay();
            List<Laid> later = then.lay();
            int letters = 0;
            for (int w = 0; w < now.size() && letters < carved; w++) {
                Laid a = now.get(w);
                if (w >= later.size()) {
                    return false;
                }
                Laid b = later.get(w);
                if (!a.word.equals(b.word) || a.row != b.row || a.column != b.column) {
                    return false;
                }
                letters += a.word.length();
            }
            return true;
        }
    }

    private static final class ParseError extends Exception {
        private static final long serialVersionUID = 1L;
        final int code;
        final int position;

        ParseError(int code, int position) {
            this.code = code;
            this.position = position;
        }
    }

    private String input = "";
    private String output = "";
    private int code = 0;
    private int position = -1;
    private State state = new State();
    private final Deque<State> past = new ArrayDeque<>();
    private final State[] slots = new State[2];

    // The reading of a text: its tokens, with where they begin, and an empty one for the end.
    private List<String> tokens;
    private List<Integer> offsets;
    private int at;

    private static void index(boolean good) {
        if (!good) {
            throw new IndexOutOfBoundsException();
        }
    }

    private static void argument(boolean good) {
        if (!good) {
            throw new IllegalArgumentException();
        }
    }

    private static void possible(boolean good) {
        if (!good) {
            throw new IllegalStateException();
        }
    }

    private void become(State then) {
        past.addLast(state);
        if (past.size() > 6) {
            past.removeFirst();
        }
        state = then;
    }

    private void cell0(int column, int row) {
        index(column >= 0 && column < state.columns && row >= 0 && row < state.rows);
    }

    private void part0(int part) {
        index(part >= 0 && part < state.parts.size());
    }

    private void tokenize() {
        tokens = new ArrayList<>();
        offsets = new ArrayList<>();
        at = 0;
        Matcher matcher = Pattern.compile("[a-z]+|[0-9]+|[^ \n]", Pattern.DOTALL).matcher(input);
        while (matcher.find()) {
            tokens.add(matcher.group());
            offsets.add(matcher.start());
        }
        tokens.add("");
        offsets.add(input.length());
    }

    private ParseError error(int number) {
        return new ParseError(number, offsets.get(at));
    }

    private int number(int least, int most) throws ParseError {
        if (!tokens.get(at).matches("[0-9]+")) {
            throw error(1);
        }
        BigInteger value = new BigInteger(tokens.get(at));
        if (value.compareTo(BigInteger.valueOf(least)) < 0 || value.compareTo(BigInteger.valueOf(most)) > 0) {
            throw error(2);
        }
        return value.intValue();
    }

    private void symbol(String want) throws ParseError {
        if (!tokens.get(at).equals(want)) {
            throw error(1);
        }
        at++;
    }

    private State parse() throws ParseError {
        State s = new State();
        boolean gap = false;
        boolean chisel = false;
        symbol("slab");
        s.columns = number(4, 24);
        at++;
        s.rows = number(2, 12);
        at++;
        symbol(";");
        while (!tokens.get(at).isEmpty()) {
            String word = tokens.get(at);
            if (word.equals("gap")) {
                if (gap) {
                    throw error(3);
                }
                gap = true;
                at++;
                s.gap = number(0, 3);
                at++;
            } else if (word.equals("chisel")) {
                if (chisel) {
                    throw error(3);
                }
                chisel = true;
                at++;
                s.sharp = number(1, 999);
                s.left = s.sharp;
                at++;
                s.sharpenTime = number(0, 99);
                at++;
            } else if (word.equals("flaw")) {
                do {
                    at++;
                    int column = number(0, s.columns - 1);
                    if (s.flaws.size() == 40) {
                        throw error(5);
                    }
                    at++;
                    int row = number(0, s.rows - 1);
                    if (!s.flaws.add(100 * row + column)) {
                        throw error(3);
                    }
                    at++;
                } while (tokens.get(at).equals(","));
            } else if (List.of("name", "date", "verse").contains(word)) {
                parsePart(s, List.of("name", "date", "verse").indexOf(word));
            } else {
                throw error(1);
            }
            symbol(";");
        }
        return s;
    }

    private void parsePart(State s, int kind) throws ParseError {
        if (s.parts.size() == 10) {
            throw error(5);
        }
        List<String> words = new ArrayList<>();
        s.parts.add(new Part(kind, words));
        at++;
        do {
            String w = tokens.get(at);
            if (!w.matches("[a-z0-9]{1,12}")) {
                throw error(1);
            }
            if (w.length() > s.columns) {
                throw error(4);
            }
            if (wordsOf(s) == 60) {
                throw error(5);
            }
            words.add(w);
            at++;
        } while (!tokens.get(at).equals(";"));
    }

    private static int wordsOf(State s) {
        int words = 0;
        for (Part part : s.parts) {
            words += part.words.size();
        }
        return words;
    }

    public int append(int a, int b, int c, int d, int e) {
        possible(input.length() + 20 <= 500);
        for (int four : new int[] {a, b, c, d, e}) {
            for (int shift = 24; shift >= 0; shift -= 8) {
                input += (char) (four >> shift & 0xff);
            }
        }
        return input.length();
    }

    public void truncate(int length) {
        argument(length >= 0 && length <= input.length());
        input = input.substring(0, length);
    }

    public int load() {
        tokenize();
        input = "";
        try {
            State s = parse();
            code = 0;
            position = -1;
            become(s);
            return s.laid();
        } catch (ParseError e) {
            code = e.code;
            position = e.position;
            return -4;
        }
    }

    public int errorCode() {
        return code;
    }

    public int errorPosition() {
        return position;
    }

    public int property(int what) {
        argument(what >= 0 && what <= 13);
        return new int[] {state.columns, state.rows, state.flaws.size(), state.gap, state.parts.size(), wordsOf(state),
            state.laid(), state.letters().size(), state.carved, state.left, state.sharp, state.sharpenTime, state.time,
            state.sharpened}[what];
    }

    public int part(int part, int what) {
        part0(part);
        argument(what >= 0 && what <= 5);
        int first = -1;
        int laid = 0;
        int lastRow = -1;
        List<Laid> all = state.lay();
        for (int w = all.size() - 1; w >= 0; w--) {
            if (all.get(w).part == part) {
                first = w;
                laid += all.get(w).row >= 0 ? 1 : 0;
                lastRow = Math.max(lastRow, all.get(w).row);
            }
        }
        Part p = state.parts.get(part);
        return new int[] {p.kind, first, p.words.size(), laid, all.get(first).row, lastRow}[what];
    }

    public int word(int word, int what) {
        List<Laid> all = state.lay();
        index(word >= 0 && word < all.size());
        argument(what >= 0 && what <= 5);
        Laid laid = all.get(word);
        int strokes = 0;
        int carved = 0;
        List<int[]> letters = state.letters();
        for (int n = 0; n < letters.size(); n++) {
            int[] letter = letters.get(n);
            if (letter[1] == laid.row && letter[0] >= laid.column && letter[0] < laid.column + laid.word.length()) {
                strokes += letter[2];
                carved += n < state.carved ? 1 : 0;
            }
        }
        return new int[] {laid.part, laid.word.length(), laid.row, laid.column, strokes, carved}[what];
    }

    public int letter(int word, int index) {
        List<Laid> all = state.lay();
        index(word >= 0 && word < all.size());
        index(index >= 0 && index < all.get(word).word.length());
        return all.get(word).word.charAt(index);
    }

    public int cell(int column, int row) {
        cell0(column, row);
        if (state.flaw(column, row)) {
            return -1;
        }
        int word = wordAt(column, row);
        return word < 0 ? 0 : letter(word, column - state.lay().get(word).column);
    }

    public int wordAt(int column, int row) {
        cell0(column, row);
        List<Laid> all = state.lay();
        for (int w = 0; w < all.size(); w++) {
            Laid laid = all.get(w);
            if (laid.row == row && column >= laid.column && column < laid.column + laid.word.length()) {
                return w;
            }
        }
        return -1;
    }

    public int freeIn(int row) {
        index(row >= 0 && row < state.rows);
        int free = 0;
        for (int column = 0; column < state.columns; column++) {
            free += cell(column, row) == 0 ? 1 : 0;
        }
        return free;
    }

    public int longestRun(int row) {
        index(row >= 0 && row < state.rows);
        StringBuilder cells = new StringBuilder();
        for (int column = 0; column < state.columns; column++) {
            cells.append(state.flaw(column, row) ? '#' : '.');
        }
        int longest = 0;
        for (String run : cells.toString().split("#")) {
            longest = Math.max(longest, run.length());
        }
        return longest;
    }

    public int rowsUsed() {
        TreeSet<Integer> rows = new TreeSet<>();
        for (int[] letter : state.letters()) {
            rows.add(letter[1]);
        }
        return rows.size();
    }

    public int firstMissing() {
        return state.laid() == wordsOf(state) ? -1 : state.laid();
    }

    public int strokesLeft() {
        int strokes = 0;
        List<int[]> letters = state.letters();
        for (int[] letter : letters.subList(state.carved, letters.size())) {
            strokes += letter[2];
        }
        return strokes;
    }

    public int timeFor(int letters) {
        argument(letters >= 0);
        State c = state.copy();
        c.cut(letters, Long.MAX_VALUE);
        return c.time - state.time;
    }

    public int lettersIn(int time) {
        argument(time >= 0);
        State c = state.copy();
        c.cut(Long.MAX_VALUE, (long) state.time + time);
        return c.carved - state.carved;
    }

    public int sharpenings() {
        State c = state.copy();
        c.cut(Long.MAX_VALUE, Long.MAX_VALUE);
        return c.sharpened - state.sharpened;
    }

    public int timeWith(int sharp) {
        argument(sharp >= 1 && sharp <= 999);
        State c = state.copy();
        c.carved = 0;
        c.time = 0;
        c.sharp = sharp;
        c.left = sharp;
        c.cut(Long.MAX_VALUE, Long.MAX_VALUE);
        return c.time;
    }

    public int nextCell() {
        List<int[]> letters = state.letters();
        return state.carved == letters.size() ? -1
                : 100 * letters.get(state.carved)[1] + letters.get(state.carved)[0];
    }

    public int laidIf(int column, int row) {
        cell0(column, row);
        State c = state.copy();
        if (!c.flaws.remove(100 * row + column)) {
            c.flaws.add(100 * row + column);
        }
        return c.laid();
    }

    public int worstFlaw() {
        int worst = -1;
        int most = -1;
        for (int flaw : state.flaws) {
            int laid = laidIf(flaw % 100, flaw / 100);
            if (laid > most) {
                most = laid;
                worst = flaw;
            }
        }
        return worst;
    }

    public int laidWithout() {
        State c = state.copy();
        c.flaws.clear();
        return c.laid();
    }

    public int laidWith(int gap) {
        argument(gap >= 0 && gap <= 3);
        State c = state.copy();
        c.gap = gap;
        return c.laid();
    }

    public int laidTurned() {
        return state.turned().laid();
    }

    public int leastRows() {
        for (int rows = 1; rows <= state.rows; rows++) {
            State c = state.copy();
            c.rows = rows;
            if (c.laid() == wordsOf(c)) {
                return rows;
            }
        }
        return -1;
    }

    public int laidBut(int part) {
        part0(part);
        return state.without(part).laid();
    }

    public int bestPlace(int part) {
        part0(part);
        int best = 0;
        for (int to = 1; to < state.parts.size(); to++) {
            best = state.moved(part, to).laid() > state.moved(part, best).laid() ? to : best;
        }
        return best;
    }

    public int touching() {
        TreeSet<Integer> touching = new TreeSet<>();
        for (int[] letter : state.letters()) {
            for (int flaw : state.flaws) {
                int away = Math.abs(flaw % 100 - letter[0]) + Math.abs(flaw / 100 - letter[1]);
                if (away == 1) {
                    touching.add(flaw);
                }
            }
        }
        return touching.size();
    }

    public int dear() {
        int more = 0;
        for (int[] letter : state.letters()) {
            more += letter[3];
        }
        return more;
    }

    public float carvedShare() {
        int letters = state.letters().size();
        return letters == 0 ? 1.0f : (float) state.carved / (float) letters;
    }

    public double meanStrokes() {
        double strokes = 0;
        for (int[] letter : state.letters()) {
            strokes += letter[2];
        }
        return strokes == 0 ? 0.0 : strokes / state.letters().size();
    }

    public double density() {
        double cells = state.columns * state.rows - state.flaws.size();
        return cells == 0 ? 0.0 : state.letters().size() / cells;
    }

    public int addPart(int kind) {
        tokenize();
        input = "";
        List<String> words = tokens.subList(0, tokens.size() - 1);
        argument(kind >= 0 && kind <= 2 && !words.isEmpty());
        for (String word : words) {
            argument(word.matches("[a-z0-9]{1,12}") && word.length() <= state.columns);
        }
        possible(state.parts.size() < 10 && wordsOf(state) + words.size() <= 60);
        State c = state.copy();
        c.parts.add(new Part(kind, words));
        become(c);
        return c.parts.size() - 1;
    }

    private int changed(State then) {
        possible(state.keepsCarved(then));
        become(then);
        return then.laid();
    }

    public int dropPart(int part) {
        part0(part);
        return changed(state.without(part));
    }

    public int movePart(int part, int to) {
        part0(part);
        part0(to);
        return changed(state.moved(part, to));
    }

    public boolean setFlaw(int column, int row, boolean flawed) {
        cell0(column, row);
        State c = state.copy();
        boolean had = c.flaws.remove(100 * row + column);
        if (flawed) {
            c.flaws.add(100 * row + column);
        }
        possible(c.flaws.size() <= 40);
        changed(c);
        return had;
    }

    public int setGap(int gap) {
        argument(gap >= 0 && gap <= 3);
        int before = state.gap;
        State c = state.copy();
        c.gap = gap;
        changed(c);
        return before;
    }

    public int turnSlab() {
        possible(state.carved == 0);
        return changed(state.turned());
    }

    public int cutRows(int rows, boolean top) {
        argument(rows >= 1 && rows <= state.rows - 2);
        possible(!top || state.carved == 0);
        State c = state.copy();
        c.rows -= rows;
        c.flaws.clear();
        for (int flaw : state.flaws) {
            int row = flaw / 100 - (top ? rows : 0);
            if (row >= 0 && row < c.rows) {
                c.flaws.add(100 * row + flaw % 100);
            }
        }
        return changed(c);
    }

    public int carve(int letters) {
        argument(letters >= 1 && letters <= 300);
        State c = state.copy();
        c.cut(letters, Long.MAX_VALUE);
        int took = c.time - state.time;
        become(c);
        return took;
    }

    public int sharpen() {
        int left = state.left;
        State c = state.copy();
        c.left = c.sharp;
        c.time += c.sharpenTime;
        c.sharpened++;
        become(c);
        return left;
    }

    public int setChisel(int sharp, int time) {
        argument(sharp >= 1 && sharp <= 999 && time >= 0 && time <= 99);
        int before = 100 * state.sharp + state.sharpenTime;
        State c = state.copy();
        c.sharp = sharp;
        c.left = sharp;
        c.sharpenTime = time;
        become(c);
        return before;
    }

    public int keep(int slot) {
        index(slot == 0 || slot == 1);
        slots[slot] = state;
        return state.carved;
    }

    public int restore(int slot) {
        index(slot == 0 || slot == 1);
        possible(slots[slot] != null);
        become(slots[slot]);
        return state.carved;
    }

    public int undo() {
        possible(!past.isEmpty());
        state = past.removeLast();
        return past.size();
    }

    public int undoCount() {
        return past.size();
    }

    public int writeRow(int row) {
        index(row >= 0 && row < state.rows);
        StringBuilder text = new StringBuilder();
        for (int column = 0; column < state.columns; column++) {
            int sign = cell(column, row);
            text.append(sign < 0 ? '#' : sign == 0 ? '.' : (char) sign);
        }
        List<int[]> letters = state.letters();
        for (int[] letter : letters.subList(0, state.carved)) {
            if (letter[1] == row) {
                text.setCharAt(letter[0], Character.toUpperCase(text.charAt(letter[0])));
            }
        }
        output = text.toString();
        return output.length();
    }

    public int writePart(int part) {
        part0(part);
        List<String> words = new ArrayList<>();
        for (Laid laid : state.lay()) {
            if (laid.part == part) {
                words.add(laid.row < 0 ? "[" + laid.word + "]" : laid.word);
            }
        }
        output = String.join(" ", words);
        return output.length();
    }

    public int outputByte(int index) {
        if (index < 0 || index >= output.length()) {
            throw new NoSuchElementException();
        }
        return output.charAt(index);
    }
}
