/** What the document says of where words are laid, of strokes, and of what stands: section 2, promises 7 to 16. */
final class LayingSentences extends SentenceGroup {
    private static final String DOCUMENT =
            "slab 10 4;flaw 3 0, 5 1;gap 0;chisel 10 4;name ab c;verse def gh 1;";

    LayingSentences(Sentences doc) {
        super(doc);
    }

    @Override
    void tell() {
        doc.in("Terms");
        places();
        names();
        missing();
        strokes();
        property();
        part();
        word();
        letter();
        cell();
        wordAt();
        freeIn();
        longestRun();
        rowsUsed();
        firstMissing();
    }

    private void places() {
        doc.says("2. LAYING. Words are laid in their order, from the column 0 of the row 0 on;", () -> {
            due.slabOf("slab 6 2;verse b a;", "b.a...|......");
            due.slabOf("slab 4 3;verse abc d ef;", "abc.|d.ef|....");
            // What would fit ahead is not laid ahead.
            due.slabOf("slab 4 3;verse ab abc a;", "ab..|abc.|a...");
        });
        doc.says("each further part begins at the column 0 of the row that is the gap and 1 behind the row in which the "
                + "latest word of the part ahead was laid.", () -> {
            due.slabOf("slab 6 3;verse a b;date c;", "a.b...|c.....|......");
            due.slabOf("slab 4 5;gap 3;verse a;date b;", "a...|....|....|....|b...");
            due.slabOf("slab 4 4;gap 3;verse a;date b;", "a...|....|....|....");
            due.slabOf("slab 4 5;gap 1;verse abc abc abc;date d;", "abc.|abc.|abc.|....|d...");
            due.slabOf("slab 4 4;gap 1;flaw 0 0,1 0,2 0,3 0;verse a;date b;", "####|a...|....|b...");
            due.slabOf("slab 4 3;name a;date b;verse c;", ".a..|b...|c...");
            // The row there has no room: the part goes on as any word does, and the next one behind it.
            due.slabOf("slab 4 5;flaw 1 1,2 2;verse abcd;date abc;verse d;", "abcd|.#..|..#.|abc.|d...");
        });
        doc.says("A word is laid into the first place from where the part is at: the cells of a row, side by side, as many "
                + "as it has bytes, none of them with a flaw;", () -> {
            due.slabOf("slab 4 2;verse abcd;", "abcd|....");
            due.slabOf("slab 5 2;flaw 4 0;verse abcd;", "abcd#|.....");
            due.slabOf("slab 5 2;flaw 0 0;verse abcd;", "#abcd|.....");
            due.slabOf("slab 5 2;flaw 3 0;verse abcd;", "...#.|abcd.");
            due.slabOf("slab 6 2;flaw 1 0;verse abcd;", ".#abcd|......");
            due.slabOf("slab 6 2;flaw 1 0;verse abcde;", ".#....|abcde.");
            due.slabOf("slab 4 2;verse ab cde;", "ab..|cde.");
            due.slabOf("slab 4 2;flaw 0 0,1 0,2 0;verse a;", "###a|....");
            due.slabOf("slab 24 2;flaw 11 0;verse abcdefghijkl;", "...........#abcdefghijkl|" + ".".repeat(24));
            due.slabOf("slab 24 2;flaw 12 0;verse abcdefghijkl;", "abcdefghijkl#...........|" + ".".repeat(24));
        });
        doc.says("of the row at hand from the column at hand on, otherwise of the next row from the column 0 on, and so on."
                , () -> {
            due.slabOf("slab 8 2;flaw 1 0;verse abc d;", ".#abc.d.|........");
            due.slabOf("slab 6 3;flaw 2 1;verse abcd efg h;", "abcd..|..#efg|h.....");
            due.slabOf("slab 4 4;flaw 1 0,1 1,1 2;verse abc;", ".#..|.#..|.#..|abc.");
            due.slabOf("slab 4 4;flaw 1 0,1 1,1 2;verse a abc;", "a#..|.#..|.#..|abc.");
            due.slabOf("slab 6 3;verse abc abc a;", "abc...|abc.a.|......");
        });
        doc.says("Behind a word the part is at the column that is 2 behind its last one.", () -> {
            due.slabOf("slab 4 2;verse a b;", "a.b.|....");
            due.slabOf("slab 4 2;verse ab c;", "ab.c|....");
            due.slabOf("slab 4 2;verse abc d;", "abc.|d...");
            due.slabOf("slab 4 2;verse abcd e;", "abcd|e...");
            due.slabOf("slab 4 2;flaw 1 0;verse a b;", "a#b.|....");
            due.slabOf("slab 5 2;flaw 2 0;verse a b;", "a.#b.|.....");
            due.slabOf("slab 24 2;verse abcdefghijk abcdefghijkl;", "abcdefghijk.abcdefghijkl|" + ".".repeat(24));
        });
    }

    private void names() {
        doc.says("Of a name, if all its words are laid (none of them is missing),", () -> {
            due.slabOf("slab 6 2;name ab cdefg;", "..ab..|cdefg.");
            due.slabOf("slab 6 2;name ab cdefg hi;", "ab....|cdefg.");
            due.slabOf("slab 6 3;flaw 2 1;name ab abcde a;", "ab....|..#...|abcde.");
            due.slabOf("slab 6 2;date ab;verse a;", "ab....|a.....");
            // A word of a further part that is missing does not matter.
            due.slabOf("slab 6 2;name ab;verse cdef gh i;", "..ab..|cdef..");
            due.slabOf("slab 6 3;name ab;name c;name de;", "..ab..|..c...|..de..");
        });
        doc.says("the words of each of its rows are moved to the right together:", () -> {
            due.slabOf("slab 8 2;name a bc;", "..a.bc..|........");
            due.slabOf("slab 8 2;name abcde fg hij;", "abcde.fg|..hij...");
            due.slabOf("slab 8 3;name a b cde fgh abcdef;", "a.b.cde.|..fgh...|.abcdef.");
            due.slabOf("slab 9 2;flaw 1 0;name a b c;", ".#a.b.c..|.........");
        });
        doc.says("by the greatest number of columns that is not greater than half (rounded down) of the columns behind the "
                + "last of them,", () -> {
            due.slabOf("slab 6 2;name ab;", "..ab..|......");
            due.slabOf("slab 7 2;name ab;", "..ab...|.......");
            due.slabOf("slab 8 2;name ab;", "...ab...|........");
            due.slabOf("slab 5 2;name abc;", ".abc.|.....");
            due.slabOf("slab 4 2;name abc;", "abc.|....");
            due.slabOf("slab 4 2;name abcd;", "abcd|....");
            due.slabOf("slab 24 2;name a;", "...........a............|" + ".".repeat(24));
            // Columns ahead of the first word do not count.
            due.slabOf("slab 8 2;flaw 0 0,1 0;name ab;", "##..ab..|........");
        });
        doc.says("with which there is no flaw at their cells then, whatever lies between (0 always does).", () -> {
            due.slabOf("slab 7 2;flaw 3 0;name ab;", ".ab#...|.......");
            due.slabOf("slab 9 2;flaw 2 0;name ab;", "..#ab....|.........");
            due.slabOf("slab 6 2;flaw 2 0,3 0;name ab;", "ab##..|......");
            due.slabOf("slab 8 2;flaw 5 0;name a bc;", ".a.bc#..|........");
            due.slabOf("slab 8 2;flaw 3 0;name a bc;", ".a.#.bc.|........");
            due.slabOf("slab 6 2;flaw 1 0,2 0,3 0;name a;", "a###..|......");
            due.slabOf("slab 9 2;flaw 3 0;name a b;", "..a#b....|.........");
            due.slabOf("slab 6 2;flaw 5 0;name ab;", "..ab.#|......");
            due.slabOf("slab 9 2;flaw 0 0,3 0;name ab;", "#..#ab...|.........");
        });
    }

    private void missing() {
        doc.says("If a word finds no place in the slab, it and all words behind it (also of further parts) are MISSING.", () -> {
            SlabCutter x = Due.loaded("slab 4 2;flaw 1 1;verse abc abc a;date b;name c;");
            due.is("slab", Due.slab(x), "abc.|.#..");
            for (int word = 1; word < 5; word++) {
                due.is("row of the word " + word, x.word(word, 2), SlabCutter.NONE);
                due.is("column of the word " + word, x.word(word, 3), SlabCutter.NONE);
            }
            due.slabOf("slab 4 2;verse abcd abcd;", "abcd|abcd");
            due.slabOf("slab 4 2;verse abcd abcd a;", "abcd|abcd");
            due.slabOf("slab 4 2;verse abcd abcd;date a;", "abcd|abcd");
            due.slabOf("slab 4 3;gap 2;verse abc abc;date a;", "abc.|abc.|....");
        });
        doc.says("A letter is a byte of a word that is laid.", () -> {
            due.is("letters", Due.loaded("slab 4 2;verse abc ab abcd a;").property(7), 5);
            due.is("none", Due.loaded("slab 4 2;flaw 0 0,0 1;verse abcd a;").property(7), 0);
            due.is("most", Due.loaded("slab 24 12;verse" + " abcdefghijk abcdefghijkl".repeat(12) + ";").property(7), 276);
        });
    }

    private int strokes(String text) {
        return Due.loaded(text).word(0, 4);
    }

    private void strokes() {
        doc.says("Its STROKES are, with k as its number from a (0): 1 plus the remainder of 7 * k by 5;", () -> {
            String want = "13524135241352413524135241";
            for (int k = 0; k < 26; k++) {
                due.is("letter " + k, strokes("slab 4 2;verse " + (char) ('a' + k) + ";"), want.charAt(k) - '0');
            }
        });
        doc.says("of a digit d: 2 plus the remainder of d by 3;", () -> {
            String want = "2342342342";
            for (int d = 0; d < 10; d++) {
                due.is("digit " + d, strokes("slab 4 2;verse " + d + ";"), want.charAt(d) - '0');
            }
        });
        doc.says("twice as many, if a cell beside it, above it or below it has a flaw.", () -> {
            due.is("none", strokes("slab 4 3;verse e;"), 4);
            due.is("left", strokes("slab 4 3;flaw 0 0;verse e;"), 8);
            due.is("right", strokes("slab 4 3;flaw 1 0;verse e;"), 8);
            due.is("above", strokes("slab 4 3;flaw 0 0;verse bcde;"), 6 + 5 + 2 + 4);
            due.is("below", strokes("slab 4 3;flaw 0 1;verse e;"), 8);
            due.is("a digit", strokes("slab 4 3;flaw 1 0;verse 5;"), 8);
            due.is("twice, not four times", strokes("slab 4 3;flaw 1 0,0 1;verse e;"), 8);
            due.is("on all sides", strokes("slab 4 3;flaw 0 1,1 0,0 0,2 1,1 2,2 0,3 0;verse e;"), 8);
            due.is("across a corner", strokes("slab 4 3;flaw 1 1;verse e;"), 4);
            due.is("two to the right", strokes("slab 4 3;flaw 2 0;verse e;"), 4);
            due.is("two below", strokes("slab 4 3;flaw 0 2;verse e;"), 4);
            due.is("the row above ends with it", strokes("slab 4 3;flaw 3 0;verse bcde;"), 3 + 5 + 2 + 8);
            due.is("the row below begins with it", strokes("slab 4 3;flaw 0 1;verse bcde;"), 6 + 5 + 2 + 4);
            due.is("last column of 24", strokes("slab 24 2;flaw 23 1,11 0;verse bbbbbbbbbbbb;"), 6 + 10 * 3 + 6);
        });
    }

    private void property() {
        doc.in("Promise 7: property");
        doc.says("- `what`: 0 columns; 1 rows; 2 flaws; 3 the gap; 4 parts; 5 words; 6 words that are laid; 7 letters; "
                + "8 letters that are carved; 9 strokes left of the chisel; 10 strokes of a sharp one; 11 the time to sharpen "
                + "it; 12 the time so far; 13 how often it was sharpened Returns that number.", () -> {
            SlabCutter x = Due.loaded("slab 12 5;flaw 11 4,10 4,9 4,11 0,11 1,11 2;gap 1;chisel 20 9;"
                    + "verse abc de;date fgh;name abcdefgh abcd x y;");
            x.sharpen();
            x.carve(8);
            // 24 strokes: the last of the letters, h, needs the chisel sharpened.
            int[] want = {12, 5, 6, 1, 3, 7, 4, 16, 8, 15, 20, 9, 42, 2};
            for (int what = 0; what < want.length; what++) {
                due.is("property " + what, x.property(what), want[what]);
            }
            SlabCutter y = Due.loaded("slab 24 12;verse" + " a".repeat(60) + ";");
            due.is("60 words, all laid", y.property(5) * 100 + y.property(6), 6060);
        });
        doc.says("Throws `IllegalArgumentException` if what is out of range", () -> {
            SlabCutter x = Due.loaded(DOCUMENT);
            due.failsArgument("below", () -> x.property(-1));
            due.failsArgument("above", () -> x.property(14));
            due.failsArgument("least", () -> x.property(Integer.MIN_VALUE));
            due.failsArgument("greatest", () -> x.property(Integer.MAX_VALUE));
        });
    }

    /** abc, abc in rows 0 and 1, fgh in row 2; what is behind is missing. */
    private static SlabCutter partly() {
        return Due.loaded("slab 4 3;verse abc abc;date fgh abc a;name a;");
    }

    private void parts(int what, int first, int second, int third) {
        SlabCutter x = partly();
        due.is("part 0, " + what, x.part(0, what), first);
        due.is("part 1, " + what, x.part(1, what), second);
        due.is("part 2, " + what, x.part(2, what), third);
    }

    private void part() {
        doc.in("Promise 8: part");
        doc.says("- `part`: number of a part", () -> {
            SlabCutter x = Due.loaded("slab 4 12;" + "verse a;".repeat(9) + "name b;");
            due.is("the first of ten", x.part(0, 0), SlabCutter.VERSE);
            due.is("the last of ten", x.part(9, 0), SlabCutter.NAME);
        });
        doc.says("- `what`: 0 its kind;", () -> parts(0, 2, 1, 0));
        doc.says("1 its first word;", () -> parts(1, 0, 2, 5));
        doc.says("2 its words;", () -> parts(2, 2, 3, 1));
        doc.says("3 those of them that are laid;", () -> parts(3, 2, 1, 0));
        doc.says("4 the row of its first word, NONE if that is missing;", () -> parts(4, 0, 2, SlabCutter.NONE));
        doc.says("5 the row of the last of its words that is laid, NONE without one Returns that number.", () -> {
            parts(5, 1, 2, SlabCutter.NONE);
            due.is("none in the first part", Due.loaded("slab 4 2;flaw 0 0,0 1;verse abcd;").part(0, 5), SlabCutter.NONE);
        });
        doc.says("Throws `IndexOutOfBoundsException` if there is no such part", () -> {
            SlabCutter x = partly();
            noSuchPart(3, part -> x.part(part, 0));
            noSuchPart(3, part -> x.part(part, 5));
            x.dropPart(2);
            due.failsIndex("dropped", () -> x.part(2, 0));
            due.failsIndex("none at all", () -> new SlabCutter().part(0, 0));
        });
        doc.says("Throws `IllegalArgumentException` if what is out of range", () -> {
            SlabCutter x = partly();
            due.failsArgument("below", () -> x.part(0, -1));
            due.failsArgument("above", () -> x.part(2, 6));
            due.failsArgument("least", () -> x.part(1, Integer.MIN_VALUE));
            due.failsArgument("greatest", () -> x.part(1, Integer.MAX_VALUE));
        });
    }

    private void words(int what, int... want) {
        SlabCutter x = partly();
        x.carve(4);
        for (int word = 0; word < want.length; word++) {
            due.is("word " + word + ", " + what, x.word(word, what), want[word]);
        }
    }

    private void word() {
        int none = SlabCutter.NONE;
        doc.in("Promise 9: word");
        doc.says("- `word`: number of a word", () -> {
            SlabCutter x = Due.loaded("slab 24 12;verse" + " a".repeat(59) + ";date bc;");
            due.is("the first of 60", x.word(0, 1), 1);
            due.is("the last of 60", x.word(59, 1), 2);
        });
        doc.says("- `what`: 0 its part;", () -> words(0, 0, 0, 1, 1, 1, 2));
        doc.says("1 its bytes;", () -> words(1, 3, 3, 3, 3, 1, 1));
        doc.says("2 its row; 3 the column of its first byte (NONE both, if it is missing);", () -> {
            words(2, 0, 1, 2, none, none, none);
            words(3, 0, 0, 0, none, none, none);
            SlabCutter x = Due.loaded("slab 9 3;flaw 0 1;name a bc;verse a b;");
            due.is("moved", x.word(0, 3) * 10 + x.word(1, 3), 24);
            due.is("behind a flaw", x.word(2, 3) * 10 + x.word(3, 3), 13);
            due.is("rows", x.word(1, 2) * 10 + x.word(3, 2), 1);
        });
        doc.says("4 its strokes (0 if it is missing);", () -> {
            words(4, 9, 9, 9, 0, 0, 0);
            SlabCutter x = Due.loaded("slab 6 2;flaw 2 0;verse ab cd;");
            due.is("beside a flaw", x.word(0, 4) * 100 + x.word(1, 4), 712);
            x.carve(4);
            due.is("carved", x.word(0, 4) * 100 + x.word(1, 4), 712);
            SlabCutter y = Due.loaded("slab 4 3;verse abcd abcd abcd;");
            y.cutRows(1, false);
            due.is("missing from now on", y.word(1, 4) * 100 + y.word(2, 4), 1100);
        });
        doc.says("5 how many of its letters are carved Returns that number.", () -> {
            words(5, 3, 1, 0, 0, 0, 0);
            SlabCutter x = partly();
            x.carve(3);
            due.is("one word", x.word(0, 5) * 10 + x.word(1, 5), 30);
            x.carve(300);
            due.is("all that are laid", x.word(2, 5) * 10 + x.word(3, 5), 30);
        });
        doc.says("Throws `IndexOutOfBoundsException` if there is no such word", () -> {
            SlabCutter x = partly();
            due.failsIndex("behind", () -> x.word(6, 0));
            due.failsIndex("below", () -> x.word(-1, 0));
            due.failsIndex("least", () -> x.word(Integer.MIN_VALUE, 5));
            due.failsIndex("greatest", () -> x.word(Integer.MAX_VALUE, 5));
            x.dropPart(2);
            due.failsIndex("dropped", () -> x.word(5, 1));
            due.failsIndex("none at all", () -> new SlabCutter().word(0, 0));
        });
        doc.says("Throws `IllegalArgumentException` if what is out of range", () -> {
            SlabCutter x = partly();
            due.failsArgument("below", () -> x.word(0, -1));
            due.failsArgument("above", () -> x.word(5, 6));
            due.failsArgument("least", () -> x.word(3, Integer.MIN_VALUE));
            due.failsArgument("greatest", () -> x.word(3, Integer.MAX_VALUE));
        });
    }

    private void letter() {
        doc.in("Promise 10: letter");
        doc.says("- `word`: number of a word - `index`: 0 to its bytes less 1 Returns this byte of the word.", () -> {
            SlabCutter x = Due.loaded("slab 12 2;verse az;date abcdefghijkl 0919;name q;");
            due.is("first", x.letter(0, 0), 'a');
            due.is("last", x.letter(0, 1), 'z');
            due.is("first of twelve", x.letter(1, 0), 'a');
            due.is("last of twelve", x.letter(1, 11), 'l');
            due.is("digit", x.letter(2, 1), '9');
            due.is("of a word that is missing", x.letter(3, 0), 'q');
            x.carve(5);
            due.is("carved", x.letter(0, 1), 'z');
        });
        doc.says("Throws `IndexOutOfBoundsException` if there is no such word or byte", () -> {
            SlabCutter x = Due.loaded("slab 12 2;verse ab;date abcdefghijkl;");
            due.failsIndex("byte behind", () -> x.letter(0, 2));
            due.failsIndex("byte behind twelve", () -> x.letter(1, 12));
            due.failsIndex("byte below", () -> x.letter(1, -1));
            due.failsIndex("byte least", () -> x.letter(0, Integer.MIN_VALUE));
            due.failsIndex("byte greatest", () -> x.letter(0, Integer.MAX_VALUE));
            due.failsIndex("word behind", () -> x.letter(2, 0));
            due.failsIndex("word below", () -> x.letter(-1, 0));
            due.failsIndex("word least", () -> x.letter(Integer.MIN_VALUE, 0));
            due.failsIndex("word greatest", () -> x.letter(Integer.MAX_VALUE, 0));
            due.failsIndex("no words", () -> new SlabCutter().letter(0, 0));
            x.dropPart(1);
            due.failsIndex("a word that was there", () -> x.letter(1, 0));
        });
    }

    private void cell() {
        doc.in("Promise 11: cell");
        doc.says("- `column`: a column - `row`: a row Returns the byte there;", () -> {
            SlabCutter x = Due.loaded("slab 4 3;flaw 0 0;name b;verse a 9;");
            // b is moved by one column.
            due.is("letter", x.cell(2, 0), 'b');
            due.is("letter", x.cell(0, 1), 'a');
            due.is("digit", x.cell(2, 1), '9');
            x.carve(2);
            due.is("carved", x.cell(2, 0) * 1000 + x.cell(0, 1), 98097);
        });
        doc.says("0 if the cell is empty;", () -> {
            SlabCutter x = Due.loaded("slab 4 3;flaw 0 0;name b;verse a 9;");
            due.is("beside", x.cell(1, 0) + x.cell(3, 0) + x.cell(1, 1), 0);
            due.is("last cell", x.cell(3, 2), 0);
        });
        doc.says("NONE if it has a flaw.", () -> {
            SlabCutter x = Due.loaded("slab 4 3;flaw 0 0,3 2;name b;");
            due.is("first cell", x.cell(0, 0), SlabCutter.NONE);
            due.is("last cell", x.cell(3, 2), SlabCutter.NONE);
        });
        doc.says("Throws `IndexOutOfBoundsException` if there is no such cell", () -> {
            SlabCutter x = Due.loaded("slab 4 3;verse abcd abcd;");
            noSuchCell(x::cell);
            x.cutRows(1, false);
            due.failsIndex("cut off", () -> x.cell(0, 2));
        });
    }

    private void wordAt() {
        doc.in("Promise 12: wordAt");
        doc.says("- `column`: a column - `row`: a row Returns the word of which a letter is there;", () -> {
            SlabCutter x = Due.loaded("slab 4 3;verse a b;date cd;verse abcd;");
            int[] want = {0, -1, 1, -1, 2, 2, -1, -1, 3, 3, 3, 3};
            for (int cell = 0; cell < want.length; cell++) {
                due.is("cell " + cell, x.wordAt(cell % 4, cell / 4), want[cell]);
            }
        });
        doc.says("NONE if there is none.", () -> {
            SlabCutter x = Due.loaded("slab 4 3;flaw 1 0;verse a b abcd abcd;");
            due.is("a flaw", x.wordAt(1, 0), SlabCutter.NONE);
            due.is("empty", x.wordAt(3, 0), SlabCutter.NONE);
            SlabCutter y = Due.loaded("slab 4 2;flaw 0 0,0 1;verse abcd;");
            due.is("a word that is missing", y.wordAt(0, 0) + y.wordAt(3, 1), 2 * SlabCutter.NONE);
        });
        doc.says("Throws `IndexOutOfBoundsException` if there is no such cell", () -> {
            SlabCutter x = Due.loaded("slab 4 3;verse abcd abcd;");
            noSuchCell(x::wordAt);
            x.cutRows(1, false);
            due.failsIndex("cut off", () -> x.wordAt(0, 2));
        });
    }

    private void freeIn() {
        doc.in("Promise 13: freeIn");
        doc.says("- `row`: a row Returns how many of its cells are empty and have no flaw.", () -> {
            SlabCutter x = Due.loaded("slab 6 3;flaw 3 0,0 1,5 1;verse ab c;verse d;");
            due.is("slab", Due.slab(x), "ab.#c.|#d...#|......");
            due.is("row 0", x.freeIn(0), 2);
            due.is("row 1", x.freeIn(1), 3);
            due.is("all", x.freeIn(2), 6);
            due.is("none", Due.loaded("slab 4 2;flaw 3 0;verse abc;").freeIn(0), 0);
        });
        doc.says("Throws `IndexOutOfBoundsException` if there is no such row",
                () -> noSuchRow(Due.loaded("slab 4 3;verse a;")::freeIn));
    }

    private void longestRun() {
        doc.in("Promise 14: longestRun");
        doc.says("- `row`: a row Returns the longest run of cells without a flaw (with letters or not).", () -> {
            SlabCutter x = Due.loaded("slab 10 5;flaw 3 0,5 1,0 2,9 2,4 2,4 3,0 4,9 4,1 4,2 4,3 4,4 4,5 4,6 4,7 4,8 4;"
                    + "verse ab;");
            int[] want = {6, 5, 4, 5, 0};
            for (int row = 0; row < want.length; row++) {
                due.is("row " + row, x.longestRun(row), want[row]);
            }
            due.is("all", new SlabCutter().longestRun(3), 10);
            due.is("with letters", Due.loaded("slab 4 2;verse abcd;").longestRun(0), 4);
        });
        doc.says("Throws `IndexOutOfBoundsException` if there is no such row",
                () -> noSuchRow(Due.loaded("slab 4 3;verse a;")::longestRun));
    }

    private void rowsUsed() {
        doc.in("Promise 15: rowsUsed");
        doc.says("Returns how many rows have a letter.", () -> {
            due.is("none", new SlabCutter().rowsUsed(), 0);
            due.is("one", Due.loaded("slab 6 2;verse a b c;").rowsUsed(), 1);
            due.is("with gaps", Due.loaded("slab 4 6;gap 2;verse a b;verse abc ab;").rowsUsed(), 3);
            due.is("all", Due.loaded("slab 4 2;verse abc ab ab ab;").rowsUsed(), 2);
            due.is("none is laid", Due.loaded("slab 4 2;flaw 0 0,0 1;verse abcd;").rowsUsed(), 0);
        });
    }

    private void firstMissing() {
        doc.in("Promise 16: firstMissing");
        doc.says("Returns the first word that is missing;", () -> {
            due.is("the first one", Due.loaded("slab 4 2;flaw 0 0,0 1;verse abcd a;").firstMissing(), 0);
            due.is("the third one", Due.loaded("slab 4 2;verse abc abc;date abc abc;").firstMissing(), 2);
            due.is("the last of 60", Due.loaded("slab 4 12;flaw 0 0,1 0,2 0,3 0,0 1,1 1,2 1,3 1;verse" + " abc".repeat(10)
                    + ";verse" + " a".repeat(50) + ";").firstMissing(), 10);
        });
        doc.says("NONE if all are laid.", () -> {
            due.is("no words", new SlabCutter().firstMissing(), SlabCutter.NONE);
            due.is("one", Due.loaded("slab 4 2;verse a;").firstMissing(), SlabCutter.NONE);
            due.is("60", Due.loaded("slab 24 12;verse" + " a".repeat(60) + ";").firstMissing(), SlabCutter.NONE);
        });
    }
}
