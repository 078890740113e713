/** Promises 1 to 6: the new object, the input buffer, load and its parse error. */
public final class InputTest {
    private static final Due due = new Due("InputTest");

    public static void main(String[] args) {
        promise01NewObject();
        promise02Append();
        promise03Truncate();
        promise04Load();
        promise04LoadChangesNothingWithAnError();
        promise04LoadForgetsTheTextAhead();
        promise05And06Slab();
        promise05And06Flaw();
        promise05And06GapAndChisel();
        promise05And06Part();
        promise05And06Limits();
        promise05And06Tokens();
        due.end();
    }

    private static void promise01NewObject() {
        SlabCutter x = new SlabCutter();
        int[] properties = {10, 4, 0, 0, 0, 0, 0, 0, 0, 100, 100, 10, 0, 0};
        for (int what = 0; what < properties.length; what++) {
            due.is("1 property " + what, x.property(what), properties[what]);
        }
        due.is("1 errorCode", x.errorCode(), 0);
        due.is("1 errorPosition", x.errorPosition(), SlabCutter.NONE);
        due.is("1 undoCount", x.undoCount(), 0);
        due.is("1 slab", Due.slab(x), "..........|..........|..........|..........");
        SlabCutter y = new SlabCutter();
        due.fails("1 empty output", java.util.NoSuchElementException.class, () -> y.outputByte(0));
        due.failsState("1 empty slot 0", () -> y.restore(0));
        due.failsState("1 empty slot 1", () -> y.restore(1));
        due.failsState("1 nothing to undo", y::undo);
        due.is("1 empty input", y.append(0, 0, 0, 0, 0), 20);
    }

    private static void promise02Append() {
        SlabCutter x = new SlabCutter();
        for (int length = 20; length <= 500; length += 20) {
            due.is("2 append", x.append(0, 0, 0, 0, 0), length);
        }
        due.failsState("2 full", () -> x.append(0, 0, 0, 0, 0));
        x.truncate(481);
        due.failsState("2 full but for 19", () -> x.append(0, 0, 0, 0, 0));
        x.truncate(481);
        x.truncate(480);
        due.is("2 room for 20", x.append(0, 0, 0, 0, 0), 500);
        SlabCutter y = new SlabCutter();
        // "slab" " 12 " "3;da" "te z" "9 ; ": each number is four bytes, the most significant first.
        due.is("2 four bytes each", y.append(0x736c6162, 0x20313220, 0x333b6461, 0x7465207a, 0x39203b20), 20);
        due.is("2 the text", y.load(), 2);
        due.is("2 columns", y.property(0), 12);
        due.is("2 rows", y.property(1), 3);
        due.is("2 letter", y.letter(0, 0), 'z');
        due.is("2 digit", y.letter(1, 0), '9');
        due.is("2 negative numbers", y.append(-1, Integer.MIN_VALUE, -1, -1, -1), 20);
        due.is("2 bytes above 127 are symbols", y.load(), SlabCutter.PARSE_ERROR);
        due.is("2 position of the symbol", y.errorPosition(), 0);
    }

    private static void promise03Truncate() {
        SlabCutter x = new SlabCutter();
        due.failsArgument("3 above an empty buffer", () -> truncated(x, 1));
        x.truncate(0);
        Due.type(x, "slab 4 2;slab");
        due.failsArgument("3 below 0", () -> truncated(x, -1));
        due.failsArgument("3 least", () -> truncated(x, Integer.MIN_VALUE));
        due.failsArgument("3 above the length", () -> truncated(x, 14));
        due.failsArgument("3 greatest", () -> truncated(x, Integer.MAX_VALUE));
        x.truncate(13);
        x.truncate(9);
        due.failsArgument("3 above the new length", () -> truncated(x, 10));
        due.is("3 the cut text", x.load(), 0);
        Due.type(x, "slab");
        x.truncate(0);
        due.is("3 to nothing", x.load(), SlabCutter.PARSE_ERROR);
        due.is("3 position", x.errorPosition(), 0);
    }

    private static int truncated(SlabCutter x, int length) {
        x.truncate(length);
        return length;
    }

    private static void promise04Load() {
        SlabCutter x = new SlabCutter();
        due.is("4 words laid", Due.load(x, "slab 6 2;name ab abcd ef;verse k;"), 2);
        due.is("4 empties", x.append(0, 0, 0, 0, 0), 20);
        x.truncate(0);
        x.carve(3);
        x.sharpen();
        x.keep(0);
        x.writeRow(0);
        due.is("4 again", Due.load(x, "slab 5 3; chisel 7 2; gap 1; flaw 4 2 , 0\n1;"), 0);
        int[] properties = {5, 3, 2, 1, 0, 0, 0, 0, 0, 7, 7, 2, 0, 0};
        for (int what = 0; what < properties.length; what++) {
            due.is("4 property " + what, x.property(what), properties[what]);
        }
        due.is("4 output stays", Due.output(x, 6), "AB....");
        due.is("4 can be undone, and what was ahead", x.undoCount(), 4);
        due.is("4 slots stay", x.restore(0), 3);
        due.is("4 a text without gap and chisel", Due.load(x, "slab 24 12;verse a;"), 1);
        due.is("4 gap", x.property(3), 0);
        due.is("4 sharp", x.property(10), 100);
        due.is("4 time to sharpen", x.property(11), 10);
        due.is("4 nothing is carved", x.property(8), 0);
        due.is("4 time", x.property(12), 0);
    }

    private static void promise04LoadChangesNothingWithAnError() {
        SlabCutter x = Due.loaded("slab 8 3;flaw 1 1;gap 1;chisel 9 3;verse ab;date 7;");
        x.carve(1);
        x.writePart(0);
        due.is("4 error", Due.load(x, "slab 4 2;flaw 2 0;gap 0;chisel 3 3;name q;x"), SlabCutter.PARSE_ERROR);
        int[] properties = {8, 3, 1, 1, 2, 2, 2, 3, 1, 8, 9, 3, 1, 0};
        for (int what = 0; what < properties.length; what++) {
            due.is("4 property " + what, x.property(what), properties[what]);
        }
        due.is("4 undo count", x.undoCount(), 2);
        due.is("4 output", Due.output(x, 2), "ab");
        due.is("4 slab", Due.slab(x), "Ab......|.#......|7.......");
        due.is("4 buffer", x.append(0, 0, 0, 0, 0), 20);
    }

    private static void promise04LoadForgetsTheTextAhead() {
        String full = "slab 24 12;gap 2;chisel 5 5;flaw 0 0,1 1,2 2,3 3,4 4,5 5,6 6,7 7,8 8,9 9,0 11,0 10,0 9,0 8,0 7,0 6"
                + ",0 5,0 4,0 3,0 2,0 1;verse abc";
        SlabCutter x = new SlabCutter();
        for (int i = 0; i < 3; i++) {
            due.is("4 with gap, chisel and 21 flaws again", Due.load(x, full + ";"), 1);
            due.is("4 and with an error", Due.load(x, full), SlabCutter.PARSE_ERROR);
        }
        due.is("4 nothing of the texts ahead", Due.load(x, "slab 24 12;"), 0);
        int[] properties = {24, 12, 0, 0, 0, 0, 0, 0, 0, 100, 100, 10, 0, 0};
        for (int what = 0; what < properties.length; what++) {
            due.is("4 property " + what, x.property(what), properties[what]);
        }
        // What was cut off or read already is behind the end of the text.
        Due.type(x, "slab 4 2;");
        x.truncate(8);
        due.is("4 cut off", x.load(), SlabCutter.PARSE_ERROR);
        due.is("5 cut off", x.errorCode(), 1);
        due.is("6 cut off", x.errorPosition(), 8);
        Due.type(x, "slab 44 2;");
        x.truncate(6);
        due.is("4 cut off in the number", x.load(), SlabCutter.PARSE_ERROR);
        due.is("6 cut off in the number", x.errorPosition(), 6);
        due.is("4 the bytes of the text ahead", x.load(), SlabCutter.PARSE_ERROR);
        due.is("6 the bytes of the text ahead", x.errorPosition(), 0);
    }

    private static void error(int code, String marked) {
        due.parseError(code, marked);
    }

    private static void good(String text, int laid) {
        due.parses(text, laid);
    }

    private static void promise05And06Slab() {
        error(1, "~");
        error(1, " \n ~");
        error(1, "~gap 1;");
        error(1, "~;");
        error(1, "~Slab 4 2;");
        error(1, "~slabs 4 2;");
        error(1, " ~sla b 4 2;");
        error(1, "slab~");
        error(1, "slab ~x");
        error(1, "slab ~;");
        error(1, "slab 10~");
        error(1, "slab 10 ~;");
        error(2, "slab ~3");
        error(2, "slab ~0 4;");
        error(2, "slab ~25 4;");
        error(2, "slab 4 ~1;");
        error(2, "slab 4 ~13;");
        error(2, "slab ~99999999999999999999 4;");
        error(2, "slab ~4294967306 4;");
        error(2, "slab 4 ~18446744073709551620;");
        error(1, "slab 4 2~");
        error(1, "slab 4 2  \n~");
        error(1, "slab 4 2~, 3;");
        error(1, "slab 4 2 ~3;");
        error(1, "slab 4 2;~slab 4 2;");
        error(1, "slab 4 2;~;");
        error(1, "slab 4 2; ~x");
        error(1, "slab 4 2; ~7");
        error(1, "slab ~-4 2;");
        good("slab 4 2;", 0);
        good("slab 24 12;", 0);
        good(" \nslab4 2 ; \n", 0);
        good("slab 00000000000000000000000010 0000000000002;", 0);
    }

    private static void promise05And06Flaw() {
        error(1, "slab 4 2;flaw~;");
        error(1, "slab 4 2;flaw~");
        error(1, "slab 4 2;flaw ~x");
        error(2, "slab 4 2;flaw ~4 0;");
        error(2, "slab 4 2;flaw 3 ~2;");
        error(1, "slab 4 2;flaw 3~;");
        error(1, "slab 4 2;flaw 0 0~");
        error(1, "slab 4 2;flaw 0 0 ~1 1;");
        error(1, "slab 4 2;flaw 0 0,~;");
        error(1, "slab 4 2;flaw 0 0,~,");
        error(3, "slab 4 2;flaw 0 0,0 ~0;");
        error(3, "slab 4 2;flaw 3 1,0 0;gap 1;flaw 1 1, 3 ~1");
        error(2, "slab 4 2;flaw 0 0,0 ~2;");
        good("slab 4 2;flaw 3 1;flaw 0 0, 3 0;", 0);
        good("slab 4 2;flaw 0 0,1 0,2 0,3 0,0 1,1 1,2 1,3 1;", 0);
    }

    private static void promise05And06GapAndChisel() {
        error(1, "slab 4 2;gap~;");
        error(1, "slab 4 2;gap ~x;");
        error(2, "slab 4 2;gap ~4;");
        error(1, "slab 4 2;gap 1 ~1;");
        error(1, "slab 4 2;gap 1~");
        error(3, "slab 4 2;gap 1;~gap");
        error(3, "slab 4 2;gap 0;chisel 1 0;verse a; ~gap 0;");
        error(1, "slab 4 2;chisel~;");
        error(1, "slab 4 2;chisel 5~;");
        error(2, "slab 4 2;chisel ~0 5;");
        error(2, "slab 4 2;chisel ~1000 5;");
        error(2, "slab 4 2;chisel 1 ~100;");
        error(1, "slab 4 2;chisel 1 1 ~1;");
        error(3, "slab 4 2;chisel 100 10;~chisel 100 10;");
        good("slab 4 2;gap 0;", 0);
        good("slab 4 2;gap 3;chisel 1 0;", 0);
        good("slab 4 2;chisel 999 99;gap 003;", 0);
    }

    private static void promise05And06Part() {
        error(1, "slab 4 2;name~");
        error(1, "slab 4 2;date ~;");
        error(1, "slab 4 2;verse a~");
        error(1, "slab 4 2;verse a~,b;");
        error(1, "slab 4 2;verse a~B;");
        error(1, "slab 24 2;verse ~abcdefghijklm;");
        error(1, "slab 24 2;verse ~1234567890123;");
        error(1, "slab 4 2;verse ~abcdefghijklm;");
        error(4, "slab 4 2;verse a ~abcde;");
        error(4, "slab 11 2;verse ~123456789012;");
        good("slab 12 2;verse abcdefghijkl 123456789012;", 2);
        good("slab 6 12;name slab flaw gap;date chisel name date;verse verse 0007 a1b2;", 12);
        error(1, "slab 4 2;~names a;");
        error(1, "slab 4 2;~verses a;");
    }

    private static String repeated(String text, int times) {
        return text.repeat(times);
    }

    private static void promise05And06Limits() {
        error(5, "slab 4 2;" + repeated("verse a;", 10) + "~verse a;");
        error(5, "slab 4 2;" + repeated("name a;", 10) + "~date");
        good("slab 4 12;" + repeated("verse a;", 10) + "gap 0;", 10);
        error(5, "slab 24 12;verse" + repeated(" a", 60) + " ~a;");
        error(5, "slab 24 12;verse" + repeated(" a", 30) + ";name" + repeated(" a", 30) + ";date ~a;");
        error(4, "slab 4 12;verse" + repeated(" a", 60) + " ~abcde;");
        error(1, "slab 4 12;verse" + repeated(" a", 60) + " ~abcdefghijklm;");
        good("slab 24 12;verse" + repeated(" a", 60) + ";", 60);
        StringBuilder flaws = new StringBuilder("slab 24 12;flaw 0 0");
        for (int i = 1; i < 40; i++) {
            flaws.append(',').append(i % 20).append(' ').append(i / 20);
        }
        good(flaws + ";", 0);
        error(5, flaws + ",~5 5;");
        error(5, flaws + ",~0 0;");
        error(5, flaws + ";flaw ~23 11");
        error(2, flaws + ",~24 0;");
        error(1, flaws + ",~a");
        error(1, flaws + " ~5 5");
    }

    private static void promise05And06Tokens() {
        // A tab is no separator; a byte above 127 is a symbol of its own.
        error(1, "slab 4~\t2;");
        error(1, "slab 4 2;verse a~\u00e9;");
        error(1, "slab 4 2;~\u00ff");
        SlabCutter x = new SlabCutter();
        Due.load(x, "slab 4 2;verse ab12cd;");
        due.is("1 three words side by side", x.property(5), 3);
        due.is("the word", Due.part(x, 0), "ab 12 [cd]");
    }
}
