/** What the document says of the output: promises 50 to 52. */
final class OutputSentences extends SentenceGroup {
    OutputSentences(Sentences doc) {
        super(doc);
    }

    @Override
    void tell() {
        writeRow();
        writePart();
        outputByte();
    }

    private void writeRow() {
        doc.in("Promise 50: writeRow");
        doc.says("Writes a row to the output buffer, replacing its content:", () -> {
            SlabCutter x = Due.loaded("slab 4 2;verse abcd ab cd;date abcd;");
            x.writePart(0);
            due.is("length", x.writeRow(0), 4);
            due.is("row", Due.output(x, 4), "abcd");
            due.failsElement("the part is gone", () -> x.outputByte(4));
        });
        doc.says("for each cell the letter that is there (as a great letter A to Z, or the digit, if it is carved),", () -> {
            SlabCutter x = Due.loaded("slab 8 2;flaw 0 0;verse az 09;verse z 9 a;");
            due.is("none is carved", Due.row(x, 0), "#az.09..");
            x.carve(1);
            due.is("a", Due.row(x, 0), "#Az.09..");
            x.carve(2);
            due.is("z and 0", Due.row(x, 0), "#AZ.09..");
            due.is("another row", Due.row(x, 1), "z.9.a...");
            x.carve(2);
            due.is("all of it", Due.row(x, 0), "#AZ.09..");
            due.is("z of the other row", Due.row(x, 1), "Z.9.a...");
            String all = "abcdefghijkl mnopqrstuvwx yz";
            SlabCutter y = Due.loaded("slab 12 3;verse " + all + ";");
            y.carve(300);
            due.is("a to l", Due.row(y, 0), "ABCDEFGHIJKL");
            due.is("m to x", Due.row(y, 1), "MNOPQRSTUVWX");
            due.is("y and z", Due.row(y, 2), "YZ..........");
        });
        doc.says("the byte # for a flaw, otherwise a dot.", () -> {
            SlabCutter x = Due.loaded("slab 4 2;flaw 3 0,0 1;");
            due.is("row 0", Due.row(x, 0), "...#");
            due.is("row 1", Due.row(x, 1), "#...");
            SlabCutter y = Due.loaded("slab 4 2;verse abc abc abc;");
            due.is("none of a word that is missing", Due.slab(y), "abc.|abc.");
        });
        doc.says("- `row`: a row Returns the length of the output.", () -> {
            due.is("4", Due.loaded("slab 4 2;").writeRow(0), 4);
            due.is("24", Due.loaded("slab 24 12;").writeRow(11), 24);
        });
        doc.says("Throws `IndexOutOfBoundsException` if there is no such row", () -> {
            SlabCutter x = Due.loaded("slab 4 3;");
            noSuchRow(x::writeRow);
        });
    }

    private void writePart() {
        doc.in("Promise 51: writePart");
        doc.says("Writes a part to the output buffer, replacing its content: its words, separated by spaces;", () -> {
            SlabCutter x = Due.loaded("slab 10 4;name ab;verse def gh 1;");
            x.writeRow(0);
            due.is("one word", Due.part(x, 0), "ab");
            due.failsElement("the row is gone", () -> x.outputByte(2));
            due.is("three words", Due.part(x, 1), "def gh 1");
            x.carve(4);
            due.is("carved", Due.part(x, 1), "def gh 1");
        });
        doc.says("those that are missing between the bytes [ and ].", () -> {
            SlabCutter x = Due.loaded("slab 6 2;name ab abcd ef 12;verse k;");
            due.is("two of four", Due.part(x, 0), "ab abcd [ef] [12]");
            due.is("one of one", Due.part(x, 1), "[k]");
            due.is("none", Due.part(Due.loaded("slab 4 2;verse abcd abcd;"), 0), "abcd abcd");
        });
        doc.says("- `part`: number of a part Returns the length of the output.", () -> {
            due.is("1", Due.loaded("slab 4 2;date a;").writePart(0), 1);
            SlabCutter x = Due.loaded("slab 12 2;date abcdefghijkl abcdefghijkl;");
            due.is("25", x.writePart(0), 25);
            // Of no text there can be more: 500 bytes a text, and as many in front of addPart.
            SlabCutter y = Due.loaded("slab 12 2;");
            Due.addPart(y, SlabCutter.DATE, "abcdefghijkl ".repeat(38));
            due.is("36 of 38 are missing", y.writePart(0), 2 * 12 + 36 * 14 + 37);
            due.is("the last byte", y.outputByte(564), ']');
            SlabCutter z = Due.loaded("slab 8 2;");
            Due.addPart(z, SlabCutter.DATE, "abcdefg ".repeat(60));
            due.is("58 of 60 are missing", z.writePart(0), 2 * 7 + 58 * 9 + 59);
            due.is("the last byte but one", z.outputByte(593), 'g');
        });
        doc.says("Throws `IndexOutOfBoundsException` if there is no such part", () -> {
            SlabCutter x = Due.loaded("slab 4 3;verse a;");
            noSuchPart(1, x::writePart);
            noSuchPart(0, new SlabCutter()::writePart);
        });
    }

    private void outputByte() {
        doc.in("Promise 52: outputByte");
        doc.says("- `index`: index into the output buffer Returns the byte at that index.", () -> {
            SlabCutter x = Due.loaded("slab 10 4;name ab c;verse def gh 1;");
            x.writePart(1);
            due.is("first", x.outputByte(0), 'd');
            due.is("space", x.outputByte(3), ' ');
            due.is("last", x.outputByte(7), '1');
            x.writeRow(3);
            due.is("dot", x.outputByte(9), '.');
            x.dropPart(1);
            due.is("a change leaves it", x.outputByte(9), '.');
        });
        doc.says("Throws `NoSuchElementException` if there is no such byte", () -> {
            SlabCutter x = Due.loaded("slab 10 4;name ab c;verse def gh 1;");
            due.failsElement("empty", () -> x.outputByte(0));
            due.failsElement("empty, below", () -> x.outputByte(-1));
            x.writePart(1);
            for (int index : new int[] {8, -1, 9, 100, 900, Integer.MIN_VALUE, Integer.MAX_VALUE}) {
                due.failsElement("" + index, () -> x.outputByte(index));
            }
            x.writePart(0);
            due.failsElement("what was there", () -> x.outputByte(4));
            due.is("the last byte", x.outputByte(3), 'c');
        });
    }
}
