/** What the document says of the constants, of the input buffer and of a text in it: section 1, promises 1 to 6. */
final class InputSentences extends SentenceGroup {
    private static final String LONG_WORD = "abcdefghijkl";
    private static final String LONG_NUMBER = "123456789012";
    private static final String STATEMENTS = "slab flaw gap chisel name date verse";

    InputSentences(Sentences doc) {
        super(doc);
    }

    @Override
    void tell() {
        doc.in("Terms");
        constants();
        text();
        tokens();
        words();
        sizes();
        flaws();
        gapAndChisel();
        parts();
        order();
        codes();
        newObject();
        append();
        truncate();
        load();
        parseError();
    }

    private static String flaws(int count) {
        StringBuilder text = new StringBuilder("flaw 0 0");
        for (int i = 1; i < count; i++) {
            text.append(',').append(i % 24).append(' ').append(i / 24);
        }
        return text.toString();
    }

    private void property(String text, int what, int want) {
        due.is("property " + what + " of " + text, Due.loaded(text).property(what), want);
    }

    private void constants() {
        doc.says("The constants: `NONE = -1`: No such value.", () -> {
            due.is("NONE", SlabCutter.NONE, -1);
            due.is("an answer of it", new SlabCutter().nextCell(), SlabCutter.NONE);
        });
        doc.says("`PARSE_ERROR = -4`: The text has a parse error.", () -> {
            due.is("PARSE_ERROR", SlabCutter.PARSE_ERROR, -4);
            due.is("an answer of it", new SlabCutter().load(), SlabCutter.PARSE_ERROR);
        });
        doc.says("`NAME = 0, DATE = 1, VERSE = 2`: Kinds of parts.", () -> {
            due.is("NAME", SlabCutter.NAME, 0);
            due.is("DATE", SlabCutter.DATE, 1);
            due.is("VERSE", SlabCutter.VERSE, 2);
            SlabCutter x = Due.loaded("slab 4 3;verse a;date b;name c;");
            due.is("kinds", x.part(0, 0) * 100 + x.part(1, 0) * 10 + x.part(2, 0), 210);
        });
    }

    private void text() {
        doc.says("1. INPUT. The input buffer holds at most 500 bytes.", () -> {
            SlabCutter x = new SlabCutter();
            Due.type(x, "slab 4 2" + " ".repeat(491) + ";");
            due.failsState("one more", () -> x.append(0, 0, 0, 0, 0));
            due.is("the 500th byte is read", x.load(), 0);
            due.is("columns", x.property(0), 4);
            due.parseError(1, "slab 4 2;" + " ".repeat(490) + "~?");
        });
        doc.says("load() parses it as a text of one or more statements;", () -> {
            due.parseError(1, "~");
            due.parses("slab 4 2;", 0);
            due.parses("slab 4 2;gap 1;", 0);
            due.parses("slab 4 2;verse a;chisel 1 1;flaw 3 1;date b;", 2);
        });
        doc.says("each statement ends with ';'.", () -> {
            due.parseError(1, "slab 4 2~");
            due.parseError(1, "slab 4 2 ~gap 1;");
            due.parseError(1, "slab 4 2;flaw 0 0~");
            due.parseError(1, "slab 4 2;flaw 0 0 ~gap 1;");
            due.parseError(1, "slab 4 2;gap 1~");
            due.parseError(1, "slab 4 2;gap 1 ~verse a;");
            due.parseError(1, "slab 4 2;chisel 1 1~,");
            due.parseError(1, "slab 4 2;chisel 1 1~");
            due.parseError(1, "slab 4 2;name a~");
            due.parseError(1, "slab 4 2;verse a~.");
            due.parseError(1, "slab 4 2;~;");
        });
    }

    private void tokens() {
        doc.says("Tokens: a word is a maximal run of lowercase letters a-z;", () -> {
            due.parses("slab 4 2;verse az;", 1);
            due.parseError(1, "slab 4 2;~verses a;");
            due.parseError(1, "slab 4 2;~vers e a;");
            due.parseError(1, "~slabz 4 2;");
            due.parseError(1, "~Slab 4 2;");
            due.parseError(1, "slab 4 2;verse a~`;");
            due.parseError(1, "slab 4 2;verse a~{;");
            due.parseError(1, "slab 4 2;verse a~A;");
            due.parseError(1, "slab 4 2;verse z~Z;");
            property("slab 6 2;verse a1b;", 5, 3);
        });
        doc.says("a number is a maximal run of decimal digits, of any length;", () -> {
            due.parses("slab 04 2;", 0);
            property("slab " + "0".repeat(490) + "12 2;", 0, 12);
            due.parseError(2, "slab ~" + "9".repeat(480) + " 2;");
            due.parseError(2, "slab ~" + "1" + "0".repeat(20) + "10 2;");
            // What would come out by a wrap-around of 32 or 64 bits is in range.
            due.parseError(2, "slab ~4294967306 2;");
            due.parseError(2, "slab ~18446744073709551626 2;");
            due.parseError(2, "slab 4 ~42949672962;");
            due.parseError(2, "slab ~1 0 2;");
            due.parseError(2, "slab 4 2;gap ~12;");
            due.parseError(1, "slab ~/4 2;");
            due.parseError(1, "slab ~:4 2;");
            property("slab 6 2;verse 09;", 5, 1);
        });
        doc.says("each other byte except space (32) and newline (10) is a symbol of its own.", () -> {
            for (int sign = 0; sign < 256; sign++) {
                boolean token = sign >= 'a' && sign <= 'z' || sign >= '0' && sign <= '9';
                if (!token && sign != ' ' && sign != '\n') {
                    SlabCutter x = new SlabCutter();
                    Due.load(x, "slab 4 2;" + (char) sign);
                    due.is("the byte " + sign + " for a statement", x.errorCode() * 100 + x.errorPosition(), 109);
                    Due.load(x, "slab 4 2;verse a" + (char) sign + "b;");
                    due.is("the byte " + sign + " for a W", x.errorCode() * 100 + x.errorPosition(),
                            sign == ';' ? 117 : 116);
                }
            }
            due.parseError(1, "slab 4 2;flaw 0 0,~,1 0;");
            due.parseError(1, "slab 4 2;gap 1;~;");
            due.parseError(1, "slab ~-4 2;");
        });
        doc.says("Spaces and newlines only separate tokens.", () -> {
            due.parses(" \n slab\n4  2 \n;\n\ngap\n1; \n", 0);
            due.parses("slab4 2;gap1;flaw0 0,1 0;verse a1;", 2);
            property("slab 6 2;verse ab;", 5, 1);
            property("slab 6 2;verse a b;", 5, 2);
            property("slab 6 2;verse a\nb;", 5, 2);
            due.parseError(1, "~sl ab 4 2;");
            due.parseError(1, "slab 4 2;~ga\np 1;");
        });
    }

    private void words() {
        doc.says("W is any word (also one of the statements) or a number of 1 to 12 bytes", () -> {
            property("slab 6 12;verse " + STATEMENTS + ";name " + STATEMENTS + ";date " + STATEMENTS + ";", 5, 21);
            property("slab 12 4;verse a 1 " + LONG_WORD + " " + LONG_NUMBER + ";", 6, 4);
            due.parseError(1, "slab 24 2;verse ~" + LONG_NUMBER + "3;");
            due.parseError(1, "slab 24 2;verse ~" + LONG_WORD + "m;");
            due.parseError(1, "slab 24 2;verse ~,;");
        });
        doc.says("(of a number its digits as they stand);", () -> {
            due.is("zeros", Due.part(Due.loaded("slab 12 4;date 007 0 000000000012 10;"), 0), "007 0 000000000012 10");
            due.is("bytes", Due.loaded("slab 12 4;date 007;").word(0, 1), 3);
        });
        doc.says("{ } means that something may be repeated or left out,", () -> {
            property("slab 9 2;flaw 1 1;", 2, 1);
            property("slab 9 2;flaw 1 1,2 1;", 2, 2);
            property("slab 9 2;flaw 1 1,2 1,3 1,4 1,5 1;", 2, 5);
            property("slab 9 2;verse a;", 5, 1);
            property("slab 9 2;verse a b;", 5, 2);
            property("slab 9 2;verse a b c d e;", 5, 5);
            due.parseError(1, "slab 9 2;verse~;");
            due.parseError(1, "slab 9 2;flaw~;");
        });
        doc.says("( | ) is a choice. The statements are:", () -> {
            due.is("name", Due.loaded("slab 4 2;name a;").part(0, 0), 0);
            due.is("date", Due.loaded("slab 4 2;date a;").part(0, 0), 1);
            due.is("verse", Due.loaded("slab 4 2;verse a;").part(0, 0), 2);
            due.parseError(1, "slab 4 2;~word a;");
            due.is("one of them alone", Due.part(Due.loaded("slab 5 9;name date verse a;"), 0), "date verse a");
        });
    }

    private void sizes() {
        doc.says("slab N N the columns, 4 to 24, and the rows, 2 to 12, of the slab;", () -> {
            due.parses("slab 4 2;", 0);
            due.parses("slab 24 12;", 0);
            due.parseError(2, "slab ~3 2;");
            due.parseError(2, "slab ~25 2;");
            due.parseError(2, "slab ~0 2;");
            due.parseError(2, "slab 4 ~1;");
            due.parseError(2, "slab 4 ~13;");
            due.parseError(2, "slab 4 ~0;");
            due.parseError(1, "slab~;");
            due.parseError(1, "slab 4~;");
            due.parseError(1, "slab 4~,2;");
            due.parseError(1, "slab 4 2 ~2;");
            SlabCutter x = Due.loaded("slab 11 7;");
            due.is("columns and rows", x.property(0) * 100 + x.property(1), 1107);
        });
        doc.says("the first statement, which each text has, and only there", () -> {
            due.parseError(1, "~verse a;");
            due.parseError(1, "~gap 1;slab 4 2;");
            due.parseError(1, "slab 4 2;~slab 4 2;");
            due.parseError(1, "slab 4 2;verse a; ~slab");
        });
    }

    private void flaws() {
        doc.says("flaw N N { , N N } flaws: the column and the row of a cell of the slab;", () -> {
            due.is("column, then row", Due.slab(Due.loaded("slab 4 3;flaw 3 0,0 2;flaw 1 1;")), "...#|.#..|#...");
            due.parseError(2, "slab 4 3;flaw ~4 0;");
            due.parseError(2, "slab 4 3;flaw 3 ~3;");
            due.parseError(2, "slab 4 3;flaw 0 0,3 2,~4 2;");
            due.parseError(2, "slab 4 3;flaw ~4294967296 0;");
            due.parseError(1, "slab 4 3;flaw 0~;");
            due.parseError(1, "slab 4 3;flaw 0 0,~;");
            due.parseError(1, "slab 4 3;flaw 0 0,1~,1;");
            due.parseError(1, "slab 4 3;flaw 0 0 ~1 1;");
        });
        doc.says("at most 40", () -> {
            property("slab 24 12;" + flaws(40) + ";", 2, 40);
            SlabCutter x = new SlabCutter();
            for (int i = 0; i < 2; i++) {
                due.is("40 of each text", Due.load(x, "slab 24 12;" + flaws(40) + ";") + x.property(2), 40);
                due.is("40 and an error", Due.load(x, "slab 24 12;" + flaws(40)), SlabCutter.PARSE_ERROR);
                due.is("its code", x.errorCode(), 1);
            }
            due.parseError(5, "slab 24 12;" + flaws(40) + ",~23 11;");
            due.parseError(5, "slab 24 12;" + flaws(20) + ";flaw 0 9" + ",1 9,2 9,3 9,4 9,5 9,6 9,7 9,8 9,9 9,10 9,11 9"
                    + ",12 9,13 9,14 9,15 9,16 9,17 9,18 9,19 9;flaw ~20 9;");
        });
    }

    private void gapAndChisel() {
        doc.says("gap N the rows that stay empty between two parts, 0 to 3;", () -> {
            due.slabOf("slab 4 5;gap 0;verse a;verse b;", "a...|b...|....|....|....");
            due.slabOf("slab 4 5;gap 1;verse a;verse b;", "a...|....|b...|....|....");
            due.slabOf("slab 4 5;gap 3;verse a;verse b;", "a...|....|....|....|b...");
            due.parseError(2, "slab 4 5;gap ~4;");
            due.parseError(2, "slab 4 5;gap ~4294967296;");
            due.parseError(1, "slab 4 5;gap~;");
            due.parseError(1, "slab 4 5;gap ~x;");
            due.parseError(1, "slab 4 5;gap 1 ~1;");
        });
        doc.says("0 without it", () -> {
            property("slab 4 5;verse a;", 3, 0);
            due.slabOf("slab 4 2;verse a;verse b;", "a...|b...");
        });
        doc.says("chisel N N the strokes of a sharp chisel, 1 to 999, and the time to sharpen it, 0 to 99;", () -> {
            SlabCutter x = Due.loaded("slab 4 2;chisel 998 97;");
            due.is("strokes and time", x.property(10) * 100 + x.property(11), 99897);
            due.is("it is sharp", x.property(9), 998);
            due.parses("slab 4 2;chisel 1 0;", 0);
            due.parses("slab 4 2;chisel 999 99;", 0);
            due.parseError(2, "slab 4 2;chisel ~0 5;");
            due.parseError(2, "slab 4 2;chisel ~1000 5;");
            due.parseError(2, "slab 4 2;chisel 1 ~100;");
            due.parseError(2, "slab 4 2;chisel ~4294967297 5;");
            due.parseError(1, "slab 4 2;chisel~;");
            due.parseError(1, "slab 4 2;chisel 5~;");
            due.parseError(1, "slab 4 2;chisel 5 5 ~5;");
        });
        doc.says("100 and 10 without it", () -> {
            SlabCutter x = Due.loaded("slab 4 2;gap 1;");
            due.is("strokes and time", x.property(10) * 100 + x.property(11), 10010);
            due.is("it is sharp", x.property(9), 100);
            due.is("after another one", Due.load(x, "slab 4 2;chisel 5 5;") + Due.load(x, "slab 4 2;"), 0);
            due.is("strokes and time", x.property(10) * 100 + x.property(11), 10010);
            due.is("it is sharp", x.property(9), 100);
        });
        doc.says("gap and chisel come at most once each.", () -> {
            due.parses("slab 4 2;chisel 1 1;gap 1;", 0);
            due.parseError(3, "slab 4 2;gap 1;~gap 1;");
            due.parseError(3, "slab 4 2;chisel 100 10;~chisel 100 10;");
            due.parseError(3, "slab 4 2;gap 0;chisel 1 1;verse a;~gap 2;");
            due.parseError(3, "slab 4 2;chisel 1 1;gap 0;verse a;~chisel 2 2;");
            property("slab 6 9;flaw 1 1;verse gap chisel gap;flaw 2 2;gap 1;verse gap;", 5, 4);
        });
    }

    private void parts() {
        doc.says("( name | date | verse ) W { W } a part: its words.", () -> {
            SlabCutter x = Due.loaded("slab 4 5;name ab;date c d e;verse ab 9;");
            due.is("parts", x.property(4), 3);
            due.is("name", Due.part(x, 0), "ab");
            due.is("date", Due.part(x, 1), "c d e");
            due.is("verse", Due.part(x, 2), "ab 9");
            due.parseError(1, "slab 4 5;name~;");
            due.parseError(1, "slab 4 5;date~");
            due.parseError(1, "slab 4 5;verse a~,b;");
        });
        doc.says("At most 10 parts,", () -> {
            property("slab 4 12;" + "verse a;".repeat(10), 4, 10);
            due.parseError(5, "slab 4 12;" + "verse a;".repeat(10) + "~verse a;");
            due.parseError(5, "slab 4 12;" + "date a;".repeat(5) + "name a;".repeat(5) + "~name a;");
        });
        doc.says("at most 60 words in all", () -> {
            property("slab 24 12;verse" + " a".repeat(60) + ";", 5, 60);
            property("slab 24 12;verse" + " a".repeat(59) + ";date a;gap 1;", 5, 60);
            due.parseError(5, "slab 24 12;verse" + " a".repeat(60) + " ~a;");
            due.parseError(5, "slab 24 12;verse" + " a".repeat(59) + ";date a ~a;");
        });
        doc.says("Columns, rows, parts and words are numbered from 0 (rows from the top, words over all parts in their order)."
                , () -> {
            SlabCutter x = Due.loaded("slab 4 3;flaw 0 2,3 1;verse ab c;date d;");
            due.slabOf("slab 4 3;flaw 0 2,3 1;verse ab c;date d;", "ab.c|d..#|#...");
            due.is("first cell", x.cell(0, 0), 'a');
            due.is("last column", x.cell(3, 1), SlabCutter.NONE);
            due.is("last row", x.cell(0, 2), SlabCutter.NONE);
            due.is("first part, first word", x.part(0, 1), 0);
            due.is("second part, first word", x.part(1, 1), 2);
            due.is("words", x.letter(0, 0) * 10000 + x.letter(1, 0) * 100 + x.letter(2, 0), 980000);
            due.failsIndex("4 columns", () -> x.cell(4, 0));
            due.failsIndex("3 rows", () -> x.cell(0, 3));
            due.failsIndex("2 parts", () -> x.part(2, 0));
            due.failsIndex("3 words", () -> x.word(3, 0));
        });
    }

    private void order() {
        doc.says("The parser reads tokens from left to right and stops at the first token that has an error;", () -> {
            due.parseError(2, "slab ~3 1;gap 9;?");
            due.parseError(5, "slab 24 12;" + flaws(40) + ",~0 0;?");
            due.parseError(4, "slab 4 2;verse ~abcde abcdefghijklm;?");
            due.parseError(1, "slab 4 2;verse ~abcdefghijklm abcde;?");
            due.parseError(3, "slab 4 2;gap 1;~gap 9");
            due.parseError(2, "slab 4 2;flaw 0 0,~9 0,0 0;");
            due.parseError(3, "slab 4 2;flaw 0 0,0 ~0,9 0;");
        });
        doc.says("if that token has several errors, the smallest code counts.", () -> {
            due.parseError(2, "slab 24 12;" + flaws(40) + ",~24 0;");
            due.parseError(1, "slab 24 12;" + flaws(40) + ",~x;");
            due.parseError(1, "slab 4 2;verse ~abcdefghijklm;");
            due.parseError(4, "slab 4 12;verse" + " a".repeat(60) + " ~abcde;");
            due.parseError(1, "slab 4 12;verse" + " a".repeat(60) + " ~abcdefghijklm;");
            due.parseError(1, "slab 4 12;verse" + " a".repeat(60) + " ~?;");
        });
        doc.says("The error position is the offset of the token's first byte;", () -> {
            due.parseError(2, "slab ~1000 4;");
            due.parseError(1, " \n ~name a;");
            due.parseError(4, "slab 4 2;verse a  ~12345;");
        });
        doc.says("for the end of the text it is the text's length. Codes:", () -> {
            due.parseError(1, "slab~");
            due.parseError(1, "slab  \n~");
            due.parseError(1, "slab 4 2;gap 2   ~");
            due.parseError(1, "slab 4 2;verse a" + " ".repeat(483) + "~");
            // Spaces that were cut off are no part of the text.
            SlabCutter x = new SlabCutter();
            Due.type(x, "slab 4 2" + " ".repeat(12));
            x.truncate(8);
            due.is("cut off", x.load(), SlabCutter.PARSE_ERROR);
            due.is("position", x.errorPosition(), 8);
        });
    }

    private void codes() {
        doc.says("1 the token cannot stand here", () -> {
            due.parseError(1, "slab 4 2;gap ~a;");
            due.parseError(1, "slab 4 2;~7;");
            due.parseError(1, "slab 4 2;~other;");
            due.parseError(1, "slab 4 2;verse a~,;");
        });
        doc.says("(also the end of an empty text, another first word of the text than slab,", () -> {
            due.parseError(1, "~");
            due.parseError(1, "  ~");
            due.parseError(1, "~gap 1;");
            due.parseError(1, "~sla 4 2;");
            due.parseError(1, "~slabs 4 2;");
            due.parseError(1, "~word");
        });
        doc.says("and a word or number of more than 12 bytes for a W)", () -> {
            due.parses("slab 24 2;verse " + LONG_WORD + " " + LONG_NUMBER.substring(1) + ";", 2);
            due.parseError(1, "slab 24 2;verse ~" + LONG_WORD + "m;");
            due.parseError(1, "slab 24 2;verse a ~" + LONG_NUMBER + "0;");
        });
        doc.says("2 a number is out of range (of a cell: of the slab)", () -> {
            due.parses("slab 24 12;flaw 23 11;", 0);
            due.parseError(2, "slab 23 12;flaw ~23 11;");
            due.parseError(2, "slab 24 11;flaw 23 ~11;");
            due.parseError(2, "slab 24 ~13;");
        });
        doc.says("3 the word gap or chisel a second time;", () -> {
            due.parseError(3, "slab 4 2;gap 1; ~gap");
            due.parseError(3, "slab 4 2;chisel 1 1; ~chisel");
        });
        doc.says("the row of a flaw that is told already", () -> {
            due.parseError(3, "slab 4 2;flaw 3 1,3 ~1;");
            due.parseError(3, "slab 4 2;flaw 3 1;verse a;flaw 0 0,003 ~01;");
            due.parses("slab 4 2;flaw 1 0,0 1;", 0);
        });
        doc.says("4 a W that has more bytes than the slab has columns", () -> {
            due.parses("slab 5 2;verse abcde 12345;", 2);
            due.parseError(4, "slab 5 2;verse abcde ~abcdef;");
            due.parseError(4, "slab 5 2;date ~123456;");
            due.parses("slab 11 2;name abcdefghijk;", 1);
            due.parseError(4, "slab 11 2;name ~abcdefghijkl;");
        });
        doc.says("5 the word of an 11th part, a 61st W, the column of a 41st flaw", () -> {
            due.parseError(5, "slab 4 12;" + "verse a;".repeat(10) + " ~name");
            due.parseError(5, "slab 24 12;verse" + " a".repeat(60) + " ~b;");
            due.parseError(5, "slab 24 12;" + flaws(40) + ";flaw ~23 11;");
            due.parseError(5, "slab 24 12;" + flaws(40) + ",~5 99;");
        });
    }

    private void newObject() {
        doc.in("Promise 1: A new object");
        doc.says("Creates a slab as described in the section on exceptions,", () -> {
            SlabCutter x = new SlabCutter();
            int[] want = {10, 4, 0, 0, 0, 0, 0, 0, 0, 100, 100, 10, 0, 0};
            for (int what = 0; what < want.length; what++) {
                due.is("property " + what, x.property(what), want[what]);
            }
            due.is("slab", Due.slab(x), "..........|..........|..........|..........");
        });
        doc.says("with empty buffers and slots.", () -> {
            SlabCutter x = new SlabCutter();
            due.failsElement("output", () -> x.outputByte(0));
            due.failsState("slot 0", () -> x.restore(0));
            due.failsState("slot 1", () -> x.restore(1));
            due.failsArgument("input", () -> Due.truncated(x, 1));
            due.is("input", x.append(0, 0, 0, 0, 0), 20);
        });
    }

    private void append() {
        doc.in("Promise 2: append");
        doc.says("Appends 20 bytes to the input buffer: the four bytes of each parameter, most significant byte first.", () -> {
            SlabCutter x = new SlabCutter();
            // "slab", " 12 ", "3;da", "te z", "9 ; "
            x.append(0x736c6162, 0x20313220, 0x333b6461, 0x7465207a, 0x39203b20);
            due.is("laid", x.load(), 2);
            due.is("slab", Due.row(x, 0) + x.property(1), "z.9.........3");
            // A byte above 127 stays one of four.
            Due.type(x, "slab 6 2;verse aaaa ");
            x.append(0x6263e920, -1, Integer.MIN_VALUE, 0, Integer.MAX_VALUE);
            due.is("a symbol", x.load(), SlabCutter.PARSE_ERROR);
            due.is("its position", x.errorPosition(), 22);
        });
        doc.says("Returns the new length of the buffer.", () -> {
            SlabCutter x = new SlabCutter();
            due.is("empty", x.append(-1, -1, -1, -1, -1), 20);
            due.is("further", x.append(0, 0, 0, 0, 0), 40);
            x.truncate(7);
            due.is("cut", x.append(0, 0, 0, 0, 0), 27);
            x.load();
            due.is("read", x.append(0, 0, 0, 0, 0), 20);
        });
        doc.says("Throws `IllegalStateException` if the buffer would hold more than 500 bytes", () -> {
            SlabCutter x = new SlabCutter();
            for (int length = 20; length <= 500; length += 20) {
                due.is("length", x.append(0, 0, 0, 0, 0), length);
            }
            due.failsState("520", () -> x.append(0, 0, 0, 0, 0));
            x.truncate(481);
            due.failsState("501", () -> x.append(0, 0, 0, 0, 0));
            x.truncate(480);
            due.is("500", x.append(0, 0, 0, 0, 0), 500);
        });
    }

    private void truncate() {
        doc.in("Promise 3: truncate");
        doc.says("Cuts the input buffer to its first length bytes.", () -> {
            SlabCutter x = new SlabCutter();
            Due.type(x, "slab 4 2;verse a;verse b;");
            x.truncate(17);
            due.is("the first part", x.load(), 1);
            Due.type(x, "slab 4 2;verse a;");
            x.truncate(16);
            due.is("without the end", x.load(), SlabCutter.PARSE_ERROR);
            due.is("position", x.errorPosition(), 16);
        });
        doc.says("- `length`: the new length, 0 to the current length", () -> {
            SlabCutter x = new SlabCutter();
            x.truncate(0);
            Due.type(x, "slab 4 2;");
            x.truncate(9);
            due.is("all of it", x.load(), 0);
            Due.type(x, "slab 4 2;");
            x.truncate(0);
            due.is("nothing of it", x.load() * 100 + x.errorPosition(), -400);
        });
        doc.says("Throws `IllegalArgumentException` if length is out of range", () -> {
            SlabCutter x = new SlabCutter();
            due.failsArgument("above nothing", () -> Due.truncated(x, 1));
            Due.type(x, "slab 4 2;");
            due.failsArgument("above", () -> Due.truncated(x, 10));
            due.failsArgument("below", () -> Due.truncated(x, -1));
            due.failsArgument("least", () -> Due.truncated(x, Integer.MIN_VALUE));
            due.failsArgument("greatest", () -> Due.truncated(x, Integer.MAX_VALUE));
            due.failsArgument("500", () -> Due.truncated(x, 500));
            due.is("uncut", x.load(), 0);
        });
    }

    private void load() {
        doc.in("Promise 4: load");
        doc.says("Parses the input buffer and empties it.", () -> {
            SlabCutter x = new SlabCutter();
            due.is("parsed", Due.load(x, "slab 4 2;verse ab;"), 1);
            due.failsArgument("emptied", () -> Due.truncated(x, 1));
            due.is("an error", Due.load(x, "slab 4 2;verse ab"), SlabCutter.PARSE_ERROR);
            due.failsArgument("emptied too", () -> Due.truncated(x, 1));
            due.is("the empty one", x.load(), SlabCutter.PARSE_ERROR);
            due.is("its position", x.errorPosition(), 0);
        });
        doc.says("On success everything but the two slots and the output buffer is that of the text;", () -> {
            SlabCutter x = Due.loaded("slab 6 3;flaw 5 2,5 1;gap 2;chisel 9 3;verse abc;name z;date y;");
            x.keep(0);
            x.writePart(0);
            Due.load(x, "slab 4 2;");
            int[] want = {4, 2, 0, 0, 0, 0, 0, 0, 0, 100, 100, 10, 0, 0};
            for (int what = 0; what < want.length; what++) {
                due.is("property " + what, x.property(what), want[what]);
            }
            due.is("output", Due.output(x, 3), "abc");
            due.is("the slot", x.restore(0) * 10 + x.property(4), 3);
            due.failsState("the other slot", () -> x.restore(1));
        });
        doc.says("nothing is carved, the chisel is sharp, the time is 0.", () -> {
            SlabCutter x = Due.loaded("slab 6 3;chisel 9 3;verse abc;");
            x.carve(3);
            x.sharpen();
            x.carve(1);
            due.is("again", Due.load(x, "slab 6 3;chisel 9 3;verse abc;"), 1);
            due.is("carved", x.property(8), 0);
            due.is("left", x.property(9), 9);
            due.is("time", x.property(12), 0);
            due.is("sharpened", x.property(13), 0);
            due.is("row", Due.row(x, 0), "abc...");
        });
        doc.says("Returns the number of words that are laid;", () -> {
            due.parses("slab 4 2;", 0);
            due.parses("slab 4 2;verse ab ab;", 2);
            due.parses("slab 4 2;verse ab ab ab a;", 2);
            due.parses("slab 24 12;verse" + " a".repeat(60) + ";", 60);
            due.parses("slab 4 2;flaw 0 0,1 0,2 0,3 0,0 1,1 1,2 1,3 1;verse a;", 0);
        });
        doc.says("PARSE_ERROR if there is a parse error (then only the buffer and the parse error change).", () -> {
            for (String text : new String[] {"", "slab 5 5;flaw 0 0;gap 2;chisel 3 3;verse q;?", "slab 4 3;flaw 1 0,1 0;"}) {
                Twins twins = new Twins();
                twins.one.truncate(0);
                due.is(text, Due.load(twins.one, text), SlabCutter.PARSE_ERROR);
                due.is("no room is taken", twins.one.append(0, 0, 0, 0, 0), 20);
                twins.one.truncate(0);
                // The same error, by the shortest way, and the same input.
                twins.other.truncate(0);
                Due.load(twins.one, "?");
                Due.load(twins.other, "?");
                twins.same(due, "load of " + text);
            }
        });
    }

    private void parseError() {
        doc.in("Promise 5: errorCode");
        doc.says("Returns the code of the parse error of the last load();", () -> {
            String[] texts = {"?", "slab 3", "slab 4 2;gap 1;gap", "slab 4 2;name abcde", "slab 4 9;" + "date a;".repeat(11)};
            SlabCutter x = new SlabCutter();
            for (int i = 0; i < texts.length; i++) {
                Due.load(x, texts[i]);
                due.is(texts[i], x.errorCode(), i + 1);
            }
        });
        doc.says("0 if it had none or there was no load().", () -> {
            SlabCutter x = new SlabCutter();
            due.is("no load", x.errorCode(), 0);
            Due.load(x, "slab 3");
            Due.load(x, "slab 4 2;");
            due.is("none", x.errorCode(), 0);
        });
        doc.in("Promise 6: errorPosition");
        doc.says("Returns the position of the parse error of the last load();", () -> {
            SlabCutter x = new SlabCutter();
            Due.load(x, "slab 4 2;gap 7");
            due.is("position", x.errorPosition(), 13);
            Due.load(x, "?");
            due.is("position 0", x.errorPosition(), 0);
            Due.load(x, "slab 4 2;" + " ".repeat(490) + "?");
            due.is("the last byte", x.errorPosition(), 499);
            Due.load(x, "slab 4 2" + " ".repeat(492));
            due.is("behind the last byte", x.errorPosition(), 500);
        });
        doc.says("NONE if it had none or there was no load().", () -> {
            SlabCutter x = new SlabCutter();
            due.is("no load", x.errorPosition(), SlabCutter.NONE);
            Due.load(x, "slab 3");
            Due.load(x, "slab 4 2;");
            due.is("none", x.errorPosition(), SlabCutter.NONE);
        });
    }
}
