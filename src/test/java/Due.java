import java.util.NoSuchElementException;

/** What the tests share: answers against what is due, texts into the buffer, the output as a text. */
final class Due {
    interface Call {
        long run();
    }

    private final String test;
    private String where = "";
    private int passed = 0;
    private int failed = 0;

    Due(String test) {
        this.test = test;
    }

    /** Stands ahead of each failure from now on. */
    void where(String told) {
        where = told + ": ";
    }

    int checks() {
        return passed + failed;
    }

    void is(String what, long got, long want) {
        report(got == want, what + " answered " + got + ", due is " + want);
    }

    void is(String what, double got, double want) {
        report(got == want, what + " answered " + got + ", due is " + want);
    }

    void is(String what, String got, String want) {
        report(got.equals(want), what + " answered \"" + got + "\", due is \"" + want + "\"");
    }

    void holds(String what, boolean good) {
        report(good, what + " does not hold");
    }

    /** The very class counts: the machine's own exceptions are subclasses of those that are due. */
    void fails(String what, Class<? extends RuntimeException> kind, Call call) {
        String got = "nothing";
        try {
            got = "answer " + call.run();
        } catch (RuntimeException e) {
            if (e.getClass() == kind) {
                report(true, what);
                return;
            }
            got = e.toString();
        }
        report(false, what + " gave " + got + ", due is " + kind.getSimpleName());
    }

    void failsState(String what, Call call) {
        fails(what, IllegalStateException.class, call);
    }

    void failsArgument(String what, Call call) {
        fails(what, IllegalArgumentException.class, call);
    }

    void failsIndex(String what, Call call) {
        fails(what, IndexOutOfBoundsException.class, call);
    }

    void failsElement(String what, Call call) {
        fails(what, NoSuchElementException.class, call);
    }

    /** A text with an error of this code; its position is that of the ~, which is taken out. */
    void parseError(int code, String marked) {
        int position = marked.indexOf('~');
        SlabCutter x = new SlabCutter();
        is("4 " + marked, load(x, marked.replace("~", "")), SlabCutter.PARSE_ERROR);
        is("5 " + marked, x.errorCode(), code);
        is("6 " + marked, x.errorPosition(), position);
        is("undo " + marked, x.undoCount(), 0);
        is("5 again " + marked, load(x, "slab 4 2;") * 1000 + x.errorCode(), 0);
        is("6 again " + marked, x.errorPosition(), SlabCutter.NONE);
    }

    /** A text without an error; the error ahead of it must be forgotten. */
    void parses(String text, int laid) {
        SlabCutter x = new SlabCutter();
        load(x, "?");
        is("4 " + text, load(x, text), laid);
        is("5 " + text, x.errorCode(), 0);
        is("6 " + text, x.errorPosition(), SlabCutter.NONE);
    }

    /** The whole slab that a text leads to, its rows with a stroke between them. */
    void slabOf(String text, String rows) {
        is(text, slab(loaded(text)), rows);
    }

    private void report(boolean good, String line) {
        if (good) {
            passed++;
            return;
        }
        failed++;
        if (failed <= 50) {
            System.out.println(test + ": " + where + line);
        }
    }

    int failures() {
        return failed;
    }

    void end() {
        System.out.println(test + ": " + passed + " passed, " + failed + " failed");
        if (failed > 0 || passed == 0) {
            System.exit(1);
        }
    }

    /** Puts a text behind what is in the input buffer. */
    static void type(SlabCutter cutter, String text) {
        int length = appendAll(cutter, text);
        int behind = text.length();
        if (behind > 0) {
            cutter.truncate(length - (behind + 19) / 20 * 20 + behind);
        }
    }

    /** By as few calls as can be: what is missing in the last 20 bytes is x. Answers the length of the buffer. */
    static int appendAll(SlabCutter cutter, String text) {
        int behind = text.length();
        int length = 0;
        for (int at = 0; at < behind; at += 20) {
            int[] fours = new int[5];
            for (int i = 0; i < 20; i++) {
                int sign = at + i < behind ? text.charAt(at + i) : 'x';
                fours[i / 4] = fours[i / 4] << 8 | sign;
            }
            length = cutter.append(fours[0], fours[1], fours[2], fours[3], fours[4]);
        }
        return length;
    }

    static int load(SlabCutter cutter, String text) {
        type(cutter, text);
        return cutter.load();
    }

    static SlabCutter loaded(String text) {
        SlabCutter cutter = new SlabCutter();
        if (load(cutter, text) == SlabCutter.PARSE_ERROR) {
            throw new AssertionError("no good text: " + text);
        }
        return cutter;
    }

    static int addPart(SlabCutter cutter, int kind, String words) {
        type(cutter, words);
        return cutter.addPart(kind);
    }

    static int flaw(SlabCutter cutter, int column, int row, boolean flawed) {
        return cutter.setFlaw(column, row, flawed) ? 1 : 0;
    }

    static int truncated(SlabCutter cutter, int length) {
        cutter.truncate(length);
        return length;
    }

    static String output(SlabCutter cutter, int length) {
        StringBuilder text = new StringBuilder();
        for (int i = 0; i < length; i++) {
            text.append((char) cutter.outputByte(i));
        }
        return text.toString();
    }

    static String row(SlabCutter cutter, int row) {
        return output(cutter, cutter.writeRow(row));
    }

    static String part(SlabCutter cutter, int part) {
        return output(cutter, cutter.writePart(part));
    }

    /** The rows of the slab, with a stroke between them. */
    static String slab(SlabCutter cutter) {
        StringBuilder text = new StringBuilder();
        for (int row = 0; row < cutter.property(1); row++) {
            text.append(row == 0 ? "" : "|").append(row(cutter, row));
        }
        return text.toString();
    }
}
