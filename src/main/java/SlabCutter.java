import java.util.NoSuchElementException;

/**
 * A cutter of inscriptions: a slab of cells with flaws, parts with words that are laid row by row
 * around the flaws, letters that are carved one after the other with a chisel that gets blunt.
 */
public final class SlabCutter {
    public static final int NONE = -1;
    public static final int PARSE_ERROR = -4;
    public static final int NAME = 0, DATE = 1, VERSE = 2;

    private static final int INPUT_LIMIT = 500;
    private static final int MIN_COLUMNS = 4;
    private static final int MAX_COLUMNS = 24;
    private static final int MIN_ROWS = 2;
    private static final int MAX_ROWS = 12;
    private static final int MAX_FLAWS = 40;
    private static final int MAX_GAP = 3;
    private static final int FIRST_SHARP = 100;
    private static final int MAX_SHARP = 999;
    private static final int FIRST_HONE_TIME = 10;
    private static final int MAX_HONE_TIME = 99;
    private static final int MAX_PARTS = 10;
    private static final int MAX_WORDS = 60;
    private static final int MAX_WORD_BYTES = 12;
    private static final int MAX_LETTERS = MAX_COLUMNS * MAX_ROWS;
    private static final int MAX_CARVE = 300;
    private static final int MAX_UNDOS = 6;
    private static final int SLOTS = 2;
    private static final int PLACE_ROW = 100;
    // Every word of a part stands between [ and ] at worst, with a space behind it.
    private static final int OUTPUT_LIMIT = MAX_WORDS * (MAX_WORD_BYTES + 3);

    private final Bytes input = new Bytes(INPUT_LIMIT);
    private final Bytes output = new Bytes(OUTPUT_LIMIT);
    private final Tokens tokens = new Tokens(input);
    private final Parser parser = new Parser(tokens);
    private final Slab slab = new Slab();
    private final Layout layout = new Layout();
    // What would be is tried here, so that a call that throws has changed nothing.
    private final Slab trial = new Slab();
    private final Layout trialLayout = new Layout();
    private final Chisel trialChisel = new Chisel();
    private final Past past = new Past();
    private final Slab[] slots = new Slab[SLOTS];

    public SlabCutter() {
        // The fields begin as the text "slab 10 4;" would leave them.
    }

    // ---------------------------------------------------------------- input

    public int append(int a, int b, int c, int d, int e) throws IllegalStateException {
        if (input.length > INPUT_LIMIT - 20) {
            throw new IllegalStateException();
        }
        input.addFour(a);
        input.addFour(b);
        input.addFour(c);
        input.addFour(d);
        input.addFour(e);
        return input.length;
    }

    public void truncate(int length) throws IllegalArgumentException {
        if (length < 0 || length > input.length) {
            throw new IllegalArgumentException();
        }
        input.length = length;
    }

    public int load() {
        boolean good = parser.read(trial);
        input.length = 0;
        if (!good) {
            return PARSE_ERROR;
        }
        settle();
        return layout.laid;
    }

    public int errorCode() {
        return parser.code;
    }

    public int errorPosition() {
        return parser.position;
    }

    // ---------------------------------------------------------------- what stands

    public int property(int what) throws IllegalArgumentException {
        switch (what) {
            case 0: return slab.columns;
            case 1: return slab.rows;
            case 2: return slab.flawCount();
            case 3: return slab.gap;
            case 4: return slab.parts;
            case 5: return slab.words;
            case 6: return layout.laid;
            case 7: return layout.letters;
            case 8: return slab.carved;
            case 9: return slab.chisel.left;
            case 10: return slab.chisel.sharp;
            case 11: return slab.chisel.honeTime;
            case 12: return slab.chisel.time;
            case 13: return slab.chisel.honed;
            default: throw new IllegalArgumentException();
        }
    }

    public int part(int part, int what) throws IndexOutOfBoundsException, IllegalArgumentException {
        needPart(part);
        int first = slab.firstOf(part);
        int size = slab.sizes.at(part);
        int laid = Math.max(0, Math.min(layout.laid - first, size));
        switch (what) {
            case 0: return slab.kinds.at(part);
            case 1: return first;
            case 2: return size;
            case 3: return laid;
            case 4: return layout.rowOf.at(first);
            case 5: return laid == 0 ? NONE : layout.rowOf.at(first + laid - 1);
            default: throw new IllegalArgumentException();
        }
    }

    public int word(int word, int what) throws IndexOutOfBoundsException, IllegalArgumentException {
        needWord(word);
        switch (what) {
            case 0: return slab.partOf(word);
            case 1: return slab.lengths.at(word);
            case 2: return layout.rowOf.at(word);
            case 3: return layout.columnOf.at(word);
            case 4: return strokesOfWord(word);
            case 5: return carvedOfWord(word);
            default: throw new IllegalArgumentException();
        }
    }

    public int letter(int word, int index) throws IndexOutOfBoundsException {
        needWord(word);
        if (index < 0 || index >= slab.lengths.at(word)) {
            throw new IndexOutOfBoundsException();
        }
        return slab.byteOf(word, index);
    }

    public int cell(int column, int row) throws IndexOutOfBoundsException {
        needCell(column, row);
        if (slab.flawed(column, row)) {
            return NONE;
        }
        int word = layout.wordOn(slab, column, row);
        return word == NONE ? 0 : slab.byteOf(word, column - layout.columnOf.at(word));
    }

    public int wordAt(int column, int row) throws IndexOutOfBoundsException {
        needCell(column, row);
        return layout.wordOn(slab, column, row);
    }

    public int freeIn(int row) throws IndexOutOfBoundsException {
        needRow(row);
        int free = 0;
        for (int column = 0; column < slab.columns; column++) {
            if (!slab.flawed(column, row) && layout.wordOn(slab, column, row) == NONE) {
                free++;
            }
        }
        return free;
    }

    public int longestRun(int row) throws IndexOutOfBoundsException {
        needRow(row);
        int longest = 0;
        int run = 0;
        for (int column = 0; column < slab.columns; column++) {
            run = slab.flawed(column, row) ? 0 : run + 1;
            longest = Math.max(longest, run);
        }
        return longest;
    }

    public int rowsUsed() {
        int used = 0;
        int latest = NONE;
        for (int word = 0; word < layout.laid; word++) {
            int row = layout.rowOf.at(word);
            if (row != latest) {
                used++;
                latest = row;
            }
        }
        return used;
    }

    public int firstMissing() {
        return layout.laid < slab.words ? layout.laid : NONE;
    }

    // ---------------------------------------------------------------- strokes and time

    public int strokesLeft() {
        return layout.costsOf(slab.carved, layout.letters);
    }

    public int timeFor(int letters) throws IllegalArgumentException {
        if (letters < 0) {
            throw new IllegalArgumentException();
        }
        int left = layout.letters - slab.carved;
        trialChisel.copy(slab.chisel);
        tryLetters(slab.carved, slab.carved + Math.min(letters, left));
        return trialChisel.time - slab.chisel.time;
    }

    public int lettersIn(int time) throws IllegalArgumentException {
        if (time < 0) {
            throw new IllegalArgumentException();
        }
        trialChisel.copy(slab.chisel);
        trialChisel.time = 0;
        int done = 0;
        for (int letter = slab.carved; letter < layout.letters; letter++) {
            trialChisel.cut(layout.costs.at(letter));
            if (trialChisel.time > time) {
                return done;
            }
            done++;
        }
        return done;
    }

    public int sharpenings() {
        trialChisel.copy(slab.chisel);
        tryLetters(slab.carved, layout.letters);
        return trialChisel.honed - slab.chisel.honed;
    }

    public int timeWith(int sharp) throws IllegalArgumentException {
        if (sharp < 1 || sharp > MAX_SHARP) {
            throw new IllegalArgumentException();
        }
        trialChisel.renew(sharp, slab.chisel.honeTime);
        trialChisel.time = 0;
        tryLetters(0, layout.letters);
        return trialChisel.time;
    }

    public int nextCell() {
        return slab.carved < layout.letters ? layout.places.at(slab.carved) : NONE;
    }

    // ---------------------------------------------------------------- what would be

    public int laidIf(int column, int row) throws IndexOutOfBoundsException {
        needCell(column, row);
        trial.copy(slab);
        trial.mark(column, row, !slab.flawed(column, row));
        return laidOnTrial();
    }

    public int worstFlaw() {
        int worst = NONE;
        int most = NONE;
        trial.copy(slab);
        for (int row = 0; row < slab.rows; row++) {
            for (int column = 0; column < slab.columns; column++) {
                if (slab.flawed(column, row)) {
                    trial.mark(column, row, false);
                    int laid = laidOnTrial();
                    trial.mark(column, row, true);
                    worst = laid > most ? PLACE_ROW * row + column : worst;
                    most = Math.max(most, laid);
                }
            }
        }
        return worst;
    }

    public int laidWithout() {
        trial.copy(slab);
        trial.flaws.clear();
        return laidOnTrial();
    }

    public int laidWith(int gap) throws IllegalArgumentException {
        needGap(gap);
        trial.copy(slab);
        trial.gap = gap;
        return laidOnTrial();
    }

    public int laidTurned() {
        trial.copy(slab);
        trial.turnFlaws(slab);
        return laidOnTrial();
    }

    public int leastRows() {
        if (layout.laid < slab.words) {
            return NONE;
        }
        // Laying goes downwards only: rows below the last word never matter.
        return slab.words == 0 ? 1 : layout.rowOf.at(slab.words - 1) + 1;
    }

    public int laidBut(int part) throws IndexOutOfBoundsException {
        needPart(part);
        tryWithout(part);
        return laidOnTrial();
    }

    public int bestPlace(int part) throws IndexOutOfBoundsException {
        needPart(part);
        int best = part;
        int most = NONE;
        for (int to = 0; to < slab.parts; to++) {
            tryMoved(part, to);
            int laid = laidOnTrial();
            if (laid > most) {
                most = laid;
                best = to;
            }
        }
        return best;
    }

    // ---------------------------------------------------------------- flaws and letters

    public int touching() {
        int touching = 0;
        for (int row = 0; row < slab.rows; row++) {
            for (int column = 0; column < slab.columns; column++) {
                if (slab.flawed(column, row) && letterBeside(column, row)) {
                    touching++;
                }
            }
        }
        return touching;
    }

    public int dear() {
        int more = 0;
        for (int letter = 0; letter < layout.letters; letter++) {
            int place = layout.places.at(letter);
            if (slab.touched(place % PLACE_ROW, place / PLACE_ROW)) {
                // A flaw doubles the strokes, so that half of them are due to it.
                more += layout.costs.at(letter) / 2;
            }
        }
        return more;
    }

    public float carvedShare() {
        return layout.letters == 0 ? 1.0f : (float) slab.carved / (float) layout.letters;
    }

    public double meanStrokes() {
        int strokes = layout.costsOf(0, layout.letters);
        return layout.letters == 0 ? 0.0 : (double) strokes / (double) layout.letters;
    }

    public double density() {
        int sound = slab.columns * slab.rows - slab.flawCount();
        return sound == 0 ? 0.0 : (double) layout.letters / (double) sound;
    }

    // ---------------------------------------------------------------- changes

    public int addPart(int kind) throws IllegalArgumentException, IllegalStateException {
        trial.copy(slab);
        int added = takeInputWords(kind);
        input.length = 0;
        if (added == 0 || kind < NAME || kind > VERSE) {
            throw new IllegalArgumentException();
        }
        if (slab.parts >= MAX_PARTS || slab.words + added > MAX_WORDS) {
            throw new IllegalStateException();
        }
        settle();
        return slab.parts - 1;
    }

    public int dropPart(int part) throws IndexOutOfBoundsException, IllegalStateException {
        needPart(part);
        tryWithout(part);
        needCarvedStay();
        settle();
        return layout.laid;
    }

    public int movePart(int part, int to) throws IndexOutOfBoundsException, IllegalStateException {
        needPart(part);
        needPart(to);
        tryMoved(part, to);
        needCarvedStay();
        settle();
        return layout.laid;
    }

    public boolean setFlaw(int column, int row, boolean flawed)
            throws IndexOutOfBoundsException, IllegalStateException {
        needCell(column, row);
        boolean before = slab.flawed(column, row);
        if (flawed && !before && slab.flawCount() >= MAX_FLAWS) {
            throw new IllegalStateException();
        }
        trial.copy(slab);
        trial.mark(column, row, flawed);
        needCarvedStay();
        settle();
        return before;
    }

    public int setGap(int gap) throws IllegalArgumentException, IllegalStateException {
        needGap(gap);
        int before = slab.gap;
        trial.copy(slab);
        trial.gap = gap;
        needCarvedStay();
        settle();
        return before;
    }

    public int turnSlab() throws IllegalStateException {
        if (slab.carved > 0) {
            throw new IllegalStateException();
        }
        trial.copy(slab);
        trial.turnFlaws(slab);
        settle();
        return layout.laid;
    }

    public int cutRows(int rows, boolean top) throws IllegalArgumentException, IllegalStateException {
        if (rows < 1 || rows > slab.rows - MIN_ROWS) {
            throw new IllegalArgumentException();
        }
        if (top && slab.carved > 0) {
            throw new IllegalStateException();
        }
        trial.copy(slab);
        trial.cutFlaws(rows, top);
        needCarvedStay();
        settle();
        return layout.laid;
    }

    public int carve(int letters) throws IllegalArgumentException {
        if (letters < 1 || letters > MAX_CARVE) {
            throw new IllegalArgumentException();
        }
        int before = slab.chisel.time;
        int end = Math.min(slab.carved + letters, layout.letters);
        trial.copy(slab);
        for (int letter = slab.carved; letter < end; letter++) {
            trial.chisel.cut(layout.costs.at(letter));
        }
        trial.carved = end;
        settle();
        return slab.chisel.time - before;
    }

    public int sharpen() {
        int before = slab.chisel.left;
        trial.copy(slab);
        trial.chisel.hone();
        settle();
        return before;
    }

    public int setChisel(int sharp, int time) throws IllegalArgumentException {
        if (sharp < 1 || sharp > MAX_SHARP || time < 0 || time > MAX_HONE_TIME) {
            throw new IllegalArgumentException();
        }
        int before = 100 * slab.chisel.sharp + slab.chisel.honeTime;
        trial.copy(slab);
        trial.chisel.renew(sharp, time);
        settle();
        return before;
    }

    // ---------------------------------------------------------------- slots and undo

    public int keep(int slot) throws IndexOutOfBoundsException {
        needSlot(slot);
        Slab kept = slots[slot];
        if (kept == null) {
            kept = new Slab();
            slots[slot] = kept;
        }
        kept.copy(slab);
        return slab.carved;
    }

    public int restore(int slot) throws IndexOutOfBoundsException, IllegalStateException {
        needSlot(slot);
        Slab kept = slots[slot];
        if (kept == null) {
            throw new IllegalStateException();
        }
        trial.copy(kept);
        settle();
        return slab.carved;
    }

    public int undo() throws IllegalStateException {
        if (past.count == 0) {
            throw new IllegalStateException();
        }
        past.takeBack(slab);
        layAnew();
        return past.count;
    }

    public int undoCount() {
        return past.count;
    }

    // ---------------------------------------------------------------- output

    public int writeRow(int row) throws IndexOutOfBoundsException {
        needRow(row);
        output.length = 0;
        for (int column = 0; column < slab.columns; column++) {
            output.add(slab.flawed(column, row) ? '#' : signOn(column, row));
        }
        return output.length;
    }

    public int writePart(int part) throws IndexOutOfBoundsException {
        needPart(part);
        int first = slab.firstOf(part);
        int behind = first + slab.sizes.at(part);
        output.length = 0;
        for (int word = first; word < behind; word++) {
            if (word > first) {
                output.add(' ');
            }
            writeWord(word);
        }
        return output.length;
    }

    public int outputByte(int index) throws NoSuchElementException {
        if (index < 0 || index >= output.length) {
            throw new NoSuchElementException();
        }
        return output.signs.at(index);
    }

    // ---------------------------------------------------------------- what must be there

    private void needPart(int part) {
        if (part < 0 || part >= slab.parts) {
            throw new IndexOutOfBoundsException();
        }
    }

    private void needWord(int word) {
        if (word < 0 || word >= slab.words) {
            throw new IndexOutOfBoundsException();
        }
    }

    private void needRow(int row) {
        if (row < 0 || row >= slab.rows) {
            throw new IndexOutOfBoundsException();
        }
    }

    private void needCell(int column, int row) {
        needRow(row);
        if (column < 0 || column >= slab.columns) {
            throw new IndexOutOfBoundsException();
        }
    }

    private void needSlot(int slot) {
        if (slot < 0 || slot >= slots.length) {
            throw new IndexOutOfBoundsException();
        }
    }

    private void needGap(int gap) {
        if (gap < 0 || gap > MAX_GAP) {
            throw new IllegalArgumentException();
        }
    }

    // ---------------------------------------------------------------- trying and changing

    private int laidOnTrial() {
        trialLayout.lay(trial);
        return trialLayout.laid;
    }

    private void tryWithout(int part) {
        trial.copy(slab);
        trial.clearParts();
        for (int other = 0; other < slab.parts; other++) {
            if (other != part) {
                trial.takePart(slab, other);
            }
        }
    }

    private void tryMoved(int part, int to) {
        trial.copy(slab);
        trial.clearParts();
        for (int place = 0; place < slab.parts; place++) {
            trial.takePart(slab, partForPlace(place, part, to));
        }
    }

    private static int partForPlace(int place, int part, int to) {
        if (place == to) {
            return part;
        }
        int amongOthers = place < to ? place : place - 1;
        return amongOthers < part ? amongOthers : amongOthers + 1;
    }

    private void tryLetters(int first, int behind) {
        for (int letter = first; letter < behind; letter++) {
            trialChisel.cut(layout.costs.at(letter));
        }
    }

    private void needCarvedStay() {
        trialLayout.lay(trial);
        if (!carvedStay()) {
            throw new IllegalStateException();
        }
    }

    /** Makes the trial slab the slab, so that it can be undone. */
    private void settle() {
        past.remember(slab);
        slab.copy(trial);
        layAnew();
    }

    private void layAnew() {
        layout.lay(slab);
        layout.listLetters(slab);
    }

    private boolean carvedStay() {
        int carved = slab.carved;
        for (int word = 0; word < layout.laid && carved > 0; word++) {
            if (!sameOnTrial(word)) {
                return false;
            }
            carved -= slab.lengths.at(word);
        }
        return true;
    }

    private boolean sameOnTrial(int word) {
        return word < trialLayout.laid
                && layout.rowOf.at(word) == trialLayout.rowOf.at(word)
                && layout.columnOf.at(word) == trialLayout.columnOf.at(word)
                && slab.sameWord(trial, word);
    }

    /** The trial slab gets a part with the words of the input; answers how many, 0 if they are wrong. */
    private int takeInputWords(int kind) {
        trial.openPart(kind);
        int count = 0;
        tokens.restart();
        // Each turn takes a token, and a token has a byte at least.
        for (int turn = 0; turn < INPUT_LIMIT && tokens.kind != Tokens.END; turn++) {
            if (!tokens.isPlainWord() || tokens.length > slab.columns) {
                return 0;
            }
            trial.takeWord(input.signs, tokens.start, tokens.length);
            count++;
            tokens.step();
        }
        return count;
    }

    // ---------------------------------------------------------------- words and cells

    private int strokesOfWord(int word) {
        if (word >= layout.laid) {
            return 0;
        }
        int first = slab.lettersAhead(word);
        return layout.costsOf(first, first + slab.lengths.at(word));
    }

    private int carvedOfWord(int word) {
        int carved = slab.carved - slab.lettersAhead(word);
        return Math.max(0, Math.min(carved, slab.lengths.at(word)));
    }

    private boolean letterBeside(int column, int row) {
        return layout.wordOn(slab, column - 1, row) != NONE
                || layout.wordOn(slab, column + 1, row) != NONE
                || layout.wordOn(slab, column, row - 1) != NONE
                || layout.wordOn(slab, column, row + 1) != NONE;
    }

    private int signOn(int column, int row) {
        int word = layout.wordOn(slab, column, row);
        if (word == NONE) {
            return '.';
        }
        int index = column - layout.columnOf.at(word);
        int sign = slab.byteOf(word, index);
        boolean great = index < carvedOfWord(word) && sign >= 'a' && sign <= 'z';
        return great ? sign - 'a' + 'A' : sign;
    }

    private void writeWord(int word) {
        boolean missing = word >= layout.laid;
        if (missing) {
            output.add('[');
        }
        for (int index = 0; index < slab.lengths.at(word); index++) {
            output.add(slab.byteOf(word, index));
        }
        if (missing) {
            output.add(']');
        }
    }

    // ---------------------------------------------------------------- the classes inside

    /** Numbers that are asked and put behind a look at the index: beyond the row all is 0. */
    private static final class Row {
        private final int[] values;

        Row(int size) {
            values = new int[size < 0 ? 0 : size];
        }

        int at(int index) {
            return index >= 0 && index < values.length ? values[index] : 0;
        }

        void put(int index, int value) {
            if (index >= 0 && index < values.length) {
                values[index] = value;
            }
        }

        void clear() {
            for (int index = 0; index < values.length; index++) {
                values[index] = 0;
            }
        }

        void copy(Row other) {
            int size = Math.min(values.length, other.values.length);
            for (int index = 0; index < size; index++) {
                values[index] = other.values[index];
            }
        }
    }

    /** A buffer of bytes, each 0 to 255. */
    private static final class Bytes {
        private final Row signs;
        private int length = 0;

        Bytes(int size) {
            signs = new Row(size);
        }

        void add(int sign) {
            signs.put(length, sign & 255);
            length++;
        }

        void addFour(int four) {
            add(four >>> 24);
            add(four >>> 16);
            add(four >>> 8);
            add(four);
        }
    }

    /** A chisel, with the time that was spent with it and how often it was sharpened. */
    private static final class Chisel {
        private int sharp = FIRST_SHARP;
        private int honeTime = FIRST_HONE_TIME;
        private int left = FIRST_SHARP;
        private int time = 0;
        private int honed = 0;

        void renew(int strokes, int sharpenTime) {
            sharp = strokes;
            honeTime = sharpenTime;
            left = strokes;
        }

        void hone() {
            left = sharp;
            time += honeTime;
            honed++;
        }

        void cut(int strokes) {
            if (left < strokes && left < sharp) {
                hone();
            }
            time += strokes;
            left = Math.max(0, left - strokes);
        }

        void copy(Chisel other) {
            sharp = other.sharp;
            honeTime = other.honeTime;
            left = other.left;
            time = other.time;
            honed = other.honed;
        }
    }

    /** All that undo gives back: the slab, its flaws, the parts and their words, the chisel, the carved letters. */
    private static final class Slab {
        private int columns = 10;
        private int rows = 4;
        private int gap = 0;
        // A row of the slab is a number with the bit of each column that has a flaw.
        private final Row flaws = new Row(MAX_ROWS);
        private int parts = 0;
        private final Row kinds = new Row(MAX_PARTS);
        private final Row sizes = new Row(MAX_PARTS);
        private int words = 0;
        private final Row lengths = new Row(MAX_WORDS);
        private final Row bytes = new Row(MAX_WORDS * MAX_WORD_BYTES);
        private final Chisel chisel = new Chisel();
        private int carved = 0;

        void begin(int columnCount, int rowCount) {
            columns = columnCount;
            rows = rowCount;
            gap = 0;
            carved = 0;
            flaws.clear();
            clearParts();
            chisel.renew(FIRST_SHARP, FIRST_HONE_TIME);
            chisel.time = 0;
            chisel.honed = 0;
        }

        void copy(Slab other) {
            columns = other.columns;
            rows = other.rows;
            gap = other.gap;
            flaws.copy(other.flaws);
            parts = other.parts;
            kinds.copy(other.kinds);
            sizes.copy(other.sizes);
            words = other.words;
            lengths.copy(other.lengths);
            bytes.copy(other.bytes);
            chisel.copy(other.chisel);
            carved = other.carved;
        }

        boolean flawed(int column, int row) {
            boolean inside = column >= 0 && column < columns && row >= 0 && row < rows;
            return inside && (flaws.at(row) >> column & 1) == 1;
        }

        void mark(int column, int row, boolean flaw) {
            if (column >= 0 && column < columns && row >= 0 && row < rows) {
                int bit = 1 << column;
                flaws.put(row, flaw ? flaws.at(row) | bit : flaws.at(row) & ~bit);
            }
        }

        int flawCount() {
            int count = 0;
            for (int row = 0; row < rows; row++) {
                count += Integer.bitCount(flaws.at(row));
            }
            return count;
        }

        boolean touched(int column, int row) {
            int flawsHere = flaws.at(row);
            int around = flawsHere << 1 | flawsHere >> 1 | flaws.at(row - 1) | flaws.at(row + 1);
            return (around >> column & 1) == 1;
        }

        void turnFlaws(Slab from) {
            flaws.clear();
            for (int row = 0; row < rows; row++) {
                for (int column = 0; column < columns; column++) {
                    mark(columns - 1 - column, rows - 1 - row, from.flawed(column, row));
                }
            }
        }

        void cutFlaws(int count, boolean top) {
            int first = top ? count : 0;
            rows -= count;
            for (int row = 0; row < MAX_ROWS; row++) {
                flaws.put(row, row < rows ? flaws.at(row + first) : 0);
            }
        }

        void clearParts() {
            parts = 0;
            words = 0;
        }

        void openPart(int kind) {
            if (parts < MAX_PARTS) {
                kinds.put(parts, kind);
                sizes.put(parts, 0);
                parts++;
            }
        }

        void takeWord(Row text, int start, int length) {
            if (words < MAX_WORDS && parts > 0) {
                for (int index = 0; index < length; index++) {
                    bytes.put(words * MAX_WORD_BYTES + index, text.at(start + index));
                }
                lengths.put(words, length);
                sizes.put(parts - 1, sizes.at(parts - 1) + 1);
                words++;
            }
        }

        void takePart(Slab from, int part) {
            int first = from.firstOf(part);
            int behind = first + from.sizes.at(part);
            openPart(from.kinds.at(part));
            for (int word = first; word < behind; word++) {
                takeWord(from.bytes, word * MAX_WORD_BYTES, from.lengths.at(word));
            }
        }

        int byteOf(int word, int index) {
            return bytes.at(word * MAX_WORD_BYTES + index);
        }

        boolean sameWord(Slab other, int word) {
            if (lengths.at(word) != other.lengths.at(word)) {
                return false;
            }
            for (int index = 0; index < lengths.at(word); index++) {
                if (byteOf(word, index) != other.byteOf(word, index)) {
                    return false;
                }
            }
            return true;
        }

        int firstOf(int part) {
            int first = 0;
            for (int ahead = 0; ahead < part; ahead++) {
                first += sizes.at(ahead);
            }
            return first;
        }

        int partOf(int word) {
            int part = 0;
            int behind = sizes.at(0);
            while (part < parts - 1 && behind <= word) {
                part++;
                behind += sizes.at(part);
            }
            return part;
        }

        int lettersAhead(int word) {
            int letters = 0;
            for (int ahead = 0; ahead < word; ahead++) {
                letters += lengths.at(ahead);
            }
            return letters;
        }

        int strokesOn(int sign, int column, int row) {
            boolean digit = sign >= '0' && sign <= '9';
            int strokes = digit ? 2 + (sign - '0') % 3 : 1 + 7 * (sign - 'a') % 5;
            return touched(column, row) ? 2 * strokes : strokes;
        }
    }

    /** Where the words of a slab lie, and its letters in the order of carving. */
    private static final class Layout {
        private final Row rowOf = new Row(MAX_WORDS);
        private final Row columnOf = new Row(MAX_WORDS);
        private final Row places = new Row(MAX_LETTERS);
        private final Row costs = new Row(MAX_LETTERS);
        // Words are laid in their order, so this is also the word that is laid next, or missing.
        private int laid = 0;
        private int letters = 0;
        private int row = 0;
        private int column = 0;

        void lay(Slab slab) {
            laid = 0;
            row = 0;
            column = 0;
            int behind = 0;
            for (int part = 0; part < slab.parts && laid == behind; part++) {
                int first = behind;
                behind = first + slab.sizes.at(part);
                layWords(slab, behind);
                if (laid == behind && slab.kinds.at(part) == NAME) {
                    centre(slab, first, behind);
                }
                row += slab.gap + 1;
                column = 0;
            }
            for (int word = laid; word < slab.words; word++) {
                rowOf.put(word, NONE);
                columnOf.put(word, NONE);
            }
        }

        private void layWords(Slab slab, int behind) {
            boolean room = true;
            for (int word = laid; word < behind && room; word++) {
                room = layWord(slab, word);
            }
        }

        private boolean layWord(Slab slab, int word) {
            int length = slab.lengths.at(word);
            int from = column;
            for (int at = row; at < slab.rows; at++) {
                for (int start = from; start + length <= slab.columns; start++) {
                    if ((slab.flaws.at(at) & cells(start, length)) == 0) {
                        rowOf.put(word, at);
                        columnOf.put(word, start);
                        laid = word + 1;
                        row = at;
                        column = start + length + 1;
                        return true;
                    }
                }
                from = 0;
            }
            return false;
        }

        /** The bits of cells side by side, as a slab has its flaws. */
        private static int cells(int start, int length) {
            return (1 << length) - 1 << start;
        }

        private void centre(Slab slab, int first, int behind) {
            int start = first;
            for (int word = first + 1; word <= behind; word++) {
                if (word == behind || rowOf.at(word) != rowOf.at(start)) {
                    centreRow(slab, start, word);
                    start = word;
                }
            }
        }

        private void centreRow(Slab slab, int first, int behind) {
            int covered = 0;
            int end = 0;
            for (int word = first; word < behind; word++) {
                covered |= cells(columnOf.at(word), slab.lengths.at(word));
                end = columnOf.at(word) + slab.lengths.at(word);
            }
            int flaws = slab.flaws.at(rowOf.at(first));
            int by = (slab.columns - end) / 2;
            while (by > 0 && (flaws & covered << by) != 0) {
                by--;
            }
            for (int word = first; word < behind; word++) {
                columnOf.put(word, columnOf.at(word) + by);
            }
        }

        /** Apart from laying, as what would be is asked for words alone. */
        void listLetters(Slab slab) {
            letters = 0;
            for (int word = 0; word < laid; word++) {
                int length = slab.lengths.at(word);
                for (int index = 0; index < length; index++) {
                    int on = columnOf.at(word) + index;
                    places.put(letters, PLACE_ROW * rowOf.at(word) + on);
                    costs.put(letters, slab.strokesOn(slab.byteOf(word, index), on, rowOf.at(word)));
                    letters++;
                }
            }
        }

        int costsOf(int first, int behind) {
            int sum = 0;
            for (int letter = first; letter < behind; letter++) {
                sum += costs.at(letter);
            }
            return sum;
        }

        int wordOn(Slab slab, int atColumn, int atRow) {
            for (int word = 0; word < laid; word++) {
                int start = columnOf.at(word);
                boolean across = start <= atColumn && atColumn < start + slab.lengths.at(word);
                if (across && rowOf.at(word) == atRow) {
                    return word;
                }
            }
            return NONE;
        }
    }

    /** The slabs as they were, the oldest first. */
    private static final class Past {
        private final Slab[] slabs = new Slab[MAX_UNDOS];
        private int count = 0;

        void remember(Slab now) {
            if (count >= slabs.length) {
                oldestToEnd();
                count = slabs.length - 1;
            }
            if (count >= 0 && count < slabs.length) {
                Slab next = slabs[count];
                if (next == null) {
                    next = new Slab();
                    slabs[count] = next;
                }
                next.copy(now);
                count++;
            }
        }

        // There the object is used again.
        private void oldestToEnd() {
            for (int index = 1; index < slabs.length; index++) {
                Slab oldest = slabs[index - 1];
                slabs[index - 1] = slabs[index];
                slabs[index] = oldest;
            }
        }

        void takeBack(Slab into) {
            if (count > 0 && count <= slabs.length) {
                Slab latest = slabs[count - 1];
                if (latest != null) {
                    into.copy(latest);
                }
                count--;
            }
        }
    }

    /** The tokens of a buffer, one at a time. */
    private static final class Tokens {
        private static final int END = 0, WORD = 1, NUMBER = 2, SYMBOL = 3;
        // Above all that a number may be; longer runs of digits stop growing here.
        private static final int TOO_GREAT = 10000;

        private final Bytes text;
        private int kind = END;
        private int start = 0;
        private int length = 0;

        Tokens(Bytes source) {
            text = source;
        }

        void restart() {
            start = 0;
            length = 0;
            step();
        }

        void step() {
            int at = start + length;
            while (at < text.length && (text.signs.at(at) == ' ' || text.signs.at(at) == '\n')) {
                at++;
            }
            start = at;
            if (at >= text.length) {
                kind = END;
                length = 0;
                return;
            }
            kind = kindOf(text.signs.at(at));
            at++;
            while (at < text.length && kind != SYMBOL && kindOf(text.signs.at(at)) == kind) {
                at++;
            }
            length = at - start;
        }

        private static int kindOf(int sign) {
            if (sign >= 'a' && sign <= 'z') {
                return WORD;
            }
            return sign >= '0' && sign <= '9' ? NUMBER : SYMBOL;
        }

        boolean says(String written) {
            if (length != written.length()) {
                return false;
            }
            for (int index = 0; index < written.length(); index++) {
                if (text.signs.at(start + index) != written.charAt(index)) {
                    return false;
                }
            }
            return true;
        }

        /** Whether it can be a word of a part, of whatever slab. */
        boolean isPlainWord() {
            return (kind == WORD || kind == NUMBER) && length <= MAX_WORD_BYTES;
        }

        int value() {
            int value = 0;
            for (int index = 0; index < length; index++) {
                value = Math.min(value * 10 + text.signs.at(start + index) - '0', TOO_GREAT);
            }
            return value;
        }
    }

    /** Reads a text into a slab, up to the first token that has an error. */
    private static final class Parser {
        private static final int NOT_HERE = 1, OUT_OF_RANGE = 2, TOLD_TWICE = 3, TOO_LONG = 4, TOO_MANY = 5;

        private final Tokens tokens;
        private int code = 0;
        private int position = NONE;
        private int number = 0;
        private int flaws = 0;
        private boolean gapTold = false;
        private boolean chiselTold = false;

        Parser(Tokens source) {
            tokens = source;
        }

        boolean read(Slab slab) {
            code = 0;
            position = NONE;
            flaws = 0;
            gapTold = false;
            chiselTold = false;
            tokens.restart();
            boolean good = readSize(slab);
            // Each turn takes a statement, and a statement has a byte at least.
            for (int turn = 0; turn < INPUT_LIMIT && good && tokens.kind != Tokens.END; turn++) {
                good = readStatement(slab);
            }
            return good;
        }

        private boolean fail(int error) {
            code = error;
            position = tokens.start;
            return false;
        }

        private boolean readSize(Slab slab) {
            if (!tokens.says("slab")) {
                return fail(NOT_HERE);
            }
            tokens.step();
            if (!readNumber(MIN_COLUMNS, MAX_COLUMNS)) {
                return false;
            }
            int columns = number;
            if (!readNumber(MIN_ROWS, MAX_ROWS)) {
                return false;
            }
            slab.begin(columns, number);
            return readEnd();
        }

        private boolean readStatement(Slab slab) {
            if (tokens.says("flaw")) {
                return readFlaws(slab);
            }
            if (tokens.says("gap")) {
                return readGap(slab);
            }
            if (tokens.says("chisel")) {
                return readChisel(slab);
            }
            if (tokens.says("name")) {
                return readPart(slab, NAME);
            }
            if (tokens.says("date")) {
                return readPart(slab, DATE);
            }
            if (tokens.says("verse")) {
                return readPart(slab, VERSE);
            }
            return fail(NOT_HERE);
        }

        private boolean readFlaws(Slab slab) {
            boolean more = true;
            // The word of the statement and each comma lead to a flaw; there is no room for more than these.
            for (int turn = 0; turn < INPUT_LIMIT && more; turn++) {
                tokens.step();
                if (!readFlaw(slab)) {
                    return false;
                }
                more = tokens.says(",");
            }
            return readEnd();
        }

        private boolean readFlaw(Slab slab) {
            if (!checkNumber(0, slab.columns - 1)) {
                return false;
            }
            if (flaws >= MAX_FLAWS) {
                return fail(TOO_MANY);
            }
            int column = number;
            tokens.step();
            if (!checkNumber(0, slab.rows - 1)) {
                return false;
            }
            if (slab.flawed(column, number)) {
                return fail(TOLD_TWICE);
            }
            slab.mark(column, number, true);
            flaws++;
            tokens.step();
            return true;
        }

        private boolean readGap(Slab slab) {
            if (gapTold) {
                return fail(TOLD_TWICE);
            }
            gapTold = true;
            tokens.step();
            if (!readNumber(0, MAX_GAP)) {
                return false;
            }
            slab.gap = number;
            return readEnd();
        }

        private boolean readChisel(Slab slab) {
            if (chiselTold) {
                return fail(TOLD_TWICE);
            }
            chiselTold = true;
            tokens.step();
            if (!readNumber(1, MAX_SHARP)) {
                return false;
            }
            int sharp = number;
            if (!readNumber(0, MAX_HONE_TIME)) {
                return false;
            }
            slab.chisel.renew(sharp, number);
            return readEnd();
        }

        private boolean readPart(Slab slab, int kind) {
            if (slab.parts >= MAX_PARTS) {
                return fail(TOO_MANY);
            }
            slab.openPart(kind);
            tokens.step();
            boolean good = readWord(slab);
            for (int turn = 0; turn < INPUT_LIMIT && good && !tokens.says(";"); turn++) {
                good = readWord(slab);
            }
            return good && readEnd();
        }

        private boolean readWord(Slab slab) {
            if (!tokens.isPlainWord()) {
                return fail(NOT_HERE);
            }
            if (tokens.length > slab.columns) {
                return fail(TOO_LONG);
            }
            if (slab.words >= MAX_WORDS) {
                return fail(TOO_MANY);
            }
            slab.takeWord(tokens.text.signs, tokens.start, tokens.length);
            tokens.step();
            return true;
        }

        /** Leaves the token at hand, as the same token may have a further error. */
        private boolean checkNumber(int least, int most) {
            if (tokens.kind != Tokens.NUMBER) {
                return fail(NOT_HERE);
            }
            number = tokens.value();
            return number >= least && number <= most || fail(OUT_OF_RANGE);
        }

        private boolean readNumber(int least, int most) {
            if (!checkNumber(least, most)) {
                return false;
            }
            tokens.step();
            return true;
        }

        private boolean readEnd() {
            if (!tokens.says(";")) {
                return fail(NOT_HERE);
            }
            tokens.step();
            return true;
        }
    }
}
