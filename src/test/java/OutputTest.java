import java.util.NoSuchElementException;

/** Promises 50 to 52: the output buffer. */
public final class OutputTest {
    private static final Due due = new Due("OutputTest");

    public static void main(String[] args) {
        promise50WriteRow();
        promise51WritePart();
        promise52OutputByte();
        due.end();
    }

    private static void promise50WriteRow() {
        SlabCutter x = Due.loaded("slab 10 4;flaw 3 0, 5 1;chisel 10 4;name ab c;verse dez gh 17;");
        due.is("50 length", x.writeRow(3), 10);
        due.is("50 empty", Due.output(x, 10), "..........");
        due.is("50", Due.row(x, 0), ".ab#.c....");
        due.is("50", Due.row(x, 1), "dez..#gh..");
        due.is("50", Due.row(x, 2), "17........");
        x.carve(1);
        due.is("50 one is carved", Due.row(x, 0), ".Ab#.c....");
        x.carve(5);
        due.is("50 carved", Due.row(x, 0), ".AB#.C....");
        due.is("50 carved", Due.row(x, 1), "DEZ..#gh..");
        x.carve(3);
        due.is("50 digit", Due.row(x, 2), "17........");
        due.failsIndex("50 row", () -> x.writeRow(4));
        due.failsIndex("50 below", () -> x.writeRow(-1));
        due.is("50 the output stays", Due.output(x, 10), "17........");
        due.is("50 widest", Due.loaded("slab 24 2;").writeRow(1), 24);
    }

    private static void promise51WritePart() {
        SlabCutter x = Due.loaded("slab 6 2;name ab abcd ef 12;verse k;");
        due.is("51", Due.part(x, 0), "ab abcd [ef] [12]");
        due.is("51 length", x.writePart(0), 17);
        due.is("51 all missing", Due.part(x, 1), "[k]");
        x.carve(3);
        due.is("51 carved", Due.part(x, 0), "ab abcd [ef] [12]");
        SlabCutter y = Due.loaded("slab 10 4;name ab c;verse def gh 1;");
        due.is("51 first", Due.part(y, 0), "ab c");
        due.is("51 second", Due.part(y, 1), "def gh 1");
        due.failsIndex("51 no part", () -> y.writePart(2));
        due.failsIndex("51 below", () -> y.writePart(-1));
        due.is("51 the output stays", Due.output(y, 8), "def gh 1");
        StringBuilder words = new StringBuilder();
        StringBuilder want = new StringBuilder();
        for (int word = 0; word < 30; word++) {
            words.append(word == 0 ? "" : " ").append("abcdefghijkl");
            want.append(word == 0 ? "" : " ").append(word < 2 ? "abcdefghijkl" : "[abcdefghijkl]");
        }
        SlabCutter z = Due.loaded("slab 12 2;date " + words + ";");
        due.is("51 longest", Due.part(z, 0), want.toString());
    }

    private static void promise52OutputByte() {
        SlabCutter x = Due.loaded("slab 10 4;name ab c;verse def gh 1;");
        due.fails("52 empty", NoSuchElementException.class, () -> x.outputByte(0));
        x.writePart(1);
        due.is("52 first", x.outputByte(0), 100);
        due.is("52 space", x.outputByte(3), 32);
        due.is("52 last", x.outputByte(7), 49);
        due.fails("52 behind", NoSuchElementException.class, () -> x.outputByte(8));
        due.fails("52 below", NoSuchElementException.class, () -> x.outputByte(-1));
        due.fails("52 greatest", NoSuchElementException.class, () -> x.outputByte(Integer.MAX_VALUE));
        due.fails("52 least", NoSuchElementException.class, () -> x.outputByte(Integer.MIN_VALUE));
        x.writePart(0);
        due.fails("52 replaced", NoSuchElementException.class, () -> x.outputByte(4));
        due.is("52 replaced", x.outputByte(3), 'c');
        x.writeRow(0);
        due.is("52 row", x.outputByte(9), '.');
        x.carve(2);
        due.is("52 a change leaves it", x.outputByte(3), 'a');
    }
}
