/** Promises 7 to 16: what stands on the slab, and where it is laid. */
public final class ViewTest {
    private static final String DOCUMENT =
            "slab 10 4;flaw 3 0, 5 1;gap 0;chisel 10 4;name ab c;verse def gh 1;";
    private static final Due due = new Due("ViewTest");

    public static void main(String[] args) {
        laying();
        layingOfNames();
        promise07Property();
        promise08Part();
        promise09Word();
        promise09WordThatWasLaid();
        promise10Letter();
        promise11Cell();
        promise12WordAt();
        promise13FreeIn();
        promise14LongestRun();
        promise15RowsUsed();
        promise16FirstMissing();
        due.end();
    }

    private static void slab(String text, String rows) {
        due.slabOf(text, rows);
    }

    private static void laying() {
        slab(DOCUMENT, ".ab#.c....|def..#gh.1|..........|..........");
        slab("slab 4 2;verse abcd efgh;", "abcd|efgh");
        slab("slab 4 2;verse ab c d;", "ab.c|d...");
        slab("slab 4 2;verse a b c;", "a.b.|c...");
        slab("slab 6 2;flaw 0 0,3 0;verse ab c;", "#ab#c.|......");
        // The cell that stays free behind a word may have a flaw.
        slab("slab 6 2;flaw 2 0;verse ab c;", "ab#c..|......");
        slab("slab 6 2;flaw 1 0,2 0,4 0;verse ab c;", ".##.#.|ab.c..");
        slab("slab 4 5;gap 1;verse a;date b;verse c;", "a...|....|b...|....|c...");
        slab("slab 4 5;gap 3;verse a;date b;", "a...|....|....|....|b...");
        slab("slab 4 3;gap 0;verse ab cd;date b;", "ab..|cd..|b...");
        // A part begins below the latest word of the part ahead, wherever its own first word comes to lie.
        slab("slab 4 4;flaw 0 1,2 1;gap 0;verse a;date bb;verse c;", "a...|#.#.|bb..|c...");
        // If a word is missing, all words behind it are, even those that would fit.
        slab("slab 4 2;verse abc abc abc a;date b;", "abc.|abc.");
        slab("slab 4 2;flaw 1 0,1 1;verse abc a;", ".#..|.#..");
        slab("slab 4 3;gap 1;verse a;date b;date c;", "a...|....|b...");
        slab("slab 24 2;verse abcdefghijkl abcdefghijk a;", "abcdefghijkl.abcdefghijk|a.......................");
        slab("slab 24 2;flaw 23 0,23 1,0 1;verse abcdefghijkl abcdefghijk;",
                "abcdefghijkl...........#|#abcdefghijk...........#");
    }

    private static void layingOfNames() {
        slab("slab 6 2;name ab;", "..ab..|......");
        slab("slab 7 2;name ab;", "..ab...|.......");
        slab("slab 6 2;name ab abcd;", "..ab..|.abcd.");
        slab("slab 6 2;date ab abcd;", "ab....|abcd..");
        slab("slab 6 2;verse ab abcd;", "ab....|abcd..");
        // Half of 5 is 2, but b would come onto the flaw with it.
        slab("slab 7 2;flaw 3 0;name ab;", ".ab#...|.......");
        // A flaw may be passed over, and may lie between the words.
        slab("slab 9 2;flaw 2 0;name ab;", "..#ab....|.........");
        slab("slab 9 2;flaw 3 0;name a b;", "..a#b....|.........");
        slab("slab 6 2;flaw 1 0,2 0,3 0;name a;", "a###..|......");
        slab("slab 6 2;flaw 0 0,2 0;name a;", "#.#a..|......");
        // All words of a row are moved together, each row by itself.
        slab("slab 8 2;name a b cde fgh;", "a.b.cde.|..fgh...");
        slab("slab 9 3;name abc d efgh i jklm;", "..abc.d..|.efgh.i..|..jklm...");
        // A name with a word that is missing stays at the left.
        slab("slab 6 2;name ab abcd ef;", "ab....|abcd..");
        slab("slab 6 2;name ab abcde;name c;", "..ab..|abcde.");
        slab("slab 6 3;gap 0;name ab;name abc abcd;", "..ab..|.abc..|.abcd.");
    }

    private static void promise07Property() {
        SlabCutter x = Due.loaded("slab 6 3;flaw 5 2,0 2;gap 1;chisel 5 7;name abc d;date 12 5 7;");
        due.is("slab", Due.slab(x), "abc.d.|......|#12.5#");
        int[] properties = {6, 3, 2, 1, 2, 5, 4, 7, 0, 5, 5, 7, 0, 0};
        check(x, properties);
        x.carve(3);
        // a 1, b 3, c 5: 1 left of 5 ahead of c, so it is sharpened, which leaves nothing behind it.
        check(x, new int[] {6, 3, 2, 1, 2, 5, 4, 7, 3, 0, 5, 7, 16, 1});
        due.failsArgument("7 below", () -> x.property(-1));
        due.failsArgument("7 above", () -> x.property(14));
        due.failsArgument("7 least", () -> x.property(Integer.MIN_VALUE));
        due.failsArgument("7 greatest", () -> x.property(Integer.MAX_VALUE));
    }

    private static void check(SlabCutter x, int[] properties) {
        for (int what = 0; what < properties.length; what++) {
            due.is("7 property " + what, x.property(what), properties[what]);
        }
    }

    private static void partIs(SlabCutter x, int part, int... want) {
        for (int what = 0; what < want.length; what++) {
            int asked = what;
            due.is("8 part " + part + ", " + asked, x.part(part, asked), want[what]);
        }
    }

    private static void promise08Part() {
        SlabCutter x = Due.loaded("slab 4 3;verse abc abc;date abc abc a;name a;");
        partIs(x, 0, 2, 0, 2, 2, 0, 1);
        partIs(x, 1, 1, 2, 3, 1, 2, 2);
        partIs(x, 2, 0, 5, 1, 0, -1, -1);
        due.failsIndex("8 no part", () -> x.part(3, 0));
        due.failsIndex("8 below", () -> x.part(-1, 0));
        due.failsIndex("8 first named first", () -> x.part(3, 6));
        due.failsArgument("8 what above", () -> x.part(2, 6));
        due.failsArgument("8 what below", () -> x.part(0, -1));
        due.failsIndex("8 without parts", () -> new SlabCutter().part(0, 0));
    }

    private static void wordIs(SlabCutter x, int word, int... want) {
        for (int what = 0; what < want.length; what++) {
            due.is("9 word " + word + ", " + what, x.word(word, what), want[what]);
        }
    }

    private static void promise09Word() {
        SlabCutter x = Due.loaded(DOCUMENT);
        x.carve(4);
        // b is beside a flaw, c above one, g beside one.
        wordIs(x, 0, 0, 2, 0, 1, 1 + 6, 2);
        wordIs(x, 1, 0, 1, 0, 5, 10, 1);
        wordIs(x, 2, 1, 3, 1, 0, 2 + 4 + 1, 1);
        wordIs(x, 3, 1, 2, 1, 6, 6 + 5, 0);
        wordIs(x, 4, 1, 1, 1, 9, 3, 0);
        due.failsIndex("9 no word", () -> x.word(5, 0));
        due.failsIndex("9 below", () -> x.word(-1, 0));
        due.failsIndex("9 first named first", () -> x.word(5, 6));
        due.failsArgument("9 what above", () -> x.word(4, 6));
        due.failsArgument("9 what below", () -> x.word(4, -1));
        SlabCutter y = Due.loaded("slab 4 2;verse abc abc abc;name z;");
        y.carve(300);
        wordIs(y, 1, 0, 3, 1, 0, 9, 3);
        wordIs(y, 2, 0, 3, -1, -1, 0, 0);
        wordIs(y, 3, 1, 1, -1, -1, 0, 0);
        // 1 plus the remainder of 7 k by 5, and 2 plus the remainder of d by 3.
        SlabCutter z = Due.loaded("slab 12 9;verse abcdefghijkl;verse mnopqrstuvwx;verse yz;verse 0123456789;");
        wordIs(z, 0, 0, 12, 0, 0, 15 + 15 + 1 + 3);
        wordIs(z, 1, 1, 12, 1, 0, 5 + 2 + 4 + 15 + 1 + 3 + 5 + 2);
        wordIs(z, 2, 2, 2, 2, 0, 4 + 1);
        wordIs(z, 3, 3, 10, 3, 0, 2 + 3 + 4 + 2 + 3 + 4 + 2 + 3 + 4 + 2);
        // Above, below and to the left; a flaw across a corner is none beside it.
        wordIs(Due.loaded("slab 4 3;flaw 0 0;gap 0;verse abcd ab;"), 0, 0, 4, 1, 0, 2 + 3 + 5 + 2);
        wordIs(Due.loaded("slab 4 3;flaw 1 1;gap 0;verse abcd ab;"), 0, 0, 4, 0, 0, 1 + 6 + 5 + 2);
        wordIs(Due.loaded("slab 4 3;flaw 0 0;gap 0;verse abc ab;"), 0, 0, 3, 0, 1, 2 + 3 + 5);
        // Two flaws double but once; the end of a row is not beside the next row's beginning.
        wordIs(Due.loaded("slab 4 3;flaw 1 1,2 0;gap 0;verse ab;"), 0, 0, 2, 0, 0, 1 + 6);
        wordIs(Due.loaded("slab 4 3;flaw 0 1,2 0;gap 0;verse ab;"), 0, 0, 2, 0, 0, 2 + 6);
        wordIs(Due.loaded("slab 4 3;flaw 0 1;gap 0;verse abcd;"), 0, 0, 4, 0, 0, 2 + 3 + 5 + 2);
    }

    private static void promise09WordThatWasLaid() {
        SlabCutter x = Due.loaded("slab 4 4;verse abcd abcd abcd;");
        x.cutRows(2, false);
        wordIs(x, 2, 0, 4, -1, -1, 0, 0);
        due.is("7 letters", x.property(7), 8);
        due.is("8 laid", x.part(0, 3), 2);
        x.carve(8);
        wordIs(x, 1, 0, 4, 1, 0, 11, 4);
        wordIs(x, 2, 0, 4, -1, -1, 0, 0);
        x.dropPart(Due.addPart(x, SlabCutter.NAME, "z"));
        due.failsIndex("9 a word that was there", () -> x.word(3, 0));
        due.failsIndex("8 a part that was there", () -> x.part(1, 0));
    }

    private static void promise10Letter() {
        SlabCutter x = Due.loaded("slab 4 2;verse abz abc 0919;");
        due.is("10", x.letter(0, 0), 97);
        due.is("10", x.letter(0, 2), 122);
        due.is("10 of a word that is missing", x.letter(2, 1), 57);
        due.is("10", x.letter(2, 3), 57);
        due.failsIndex("10 below", () -> x.letter(0, -1));
        due.failsIndex("10 behind", () -> x.letter(0, 3));
        due.failsIndex("10 no word", () -> x.letter(3, 0));
        due.failsIndex("10 word below", () -> x.letter(-1, 0));
        due.failsIndex("10 greatest", () -> x.letter(0, Integer.MAX_VALUE));
        due.failsIndex("10 word greatest", () -> x.letter(Integer.MAX_VALUE, 0));
        x.dropPart(0);
        due.failsIndex("10 a word that was there", () -> x.letter(0, 0));
    }

    private static void promise11Cell() {
        SlabCutter x = Due.loaded(DOCUMENT);
        x.carve(2);
        int[] first = {0, 97, 98, -1, 0, 99, 0, 0, 0, 0};
        int[] second = {100, 101, 102, 0, 0, -1, 103, 104, 0, 49};
        for (int column = 0; column < 10; column++) {
            due.is("11 row 0", x.cell(column, 0), first[column]);
            due.is("11 row 1", x.cell(column, 1), second[column]);
            due.is("11 row 3", x.cell(column, 3), 0);
        }
        due.failsIndex("11 column", () -> x.cell(10, 0));
        due.failsIndex("11 column below", () -> x.cell(-1, 0));
        due.failsIndex("11 row", () -> x.cell(0, 4));
        due.failsIndex("11 row below", () -> x.cell(0, -1));
        due.failsIndex("11 least", () -> x.cell(Integer.MIN_VALUE, Integer.MIN_VALUE));
    }

    private static void promise12WordAt() {
        SlabCutter x = Due.loaded(DOCUMENT);
        int[] first = {-1, 0, 0, -1, -1, 1, -1, -1, -1, -1};
        int[] second = {2, 2, 2, -1, -1, -1, 3, 3, -1, 4};
        for (int column = 0; column < 10; column++) {
            due.is("12 row 0", x.wordAt(column, 0), first[column]);
            due.is("12 row 1", x.wordAt(column, 1), second[column]);
            due.is("12 row 2", x.wordAt(column, 2), -1);
        }
        due.failsIndex("12 column", () -> x.wordAt(10, 3));
        due.failsIndex("12 column below", () -> x.wordAt(-1, 3));
        due.failsIndex("12 row", () -> x.wordAt(9, 4));
        due.failsIndex("12 row below", () -> x.wordAt(9, -1));
    }

    private static void promise13FreeIn() {
        SlabCutter x = Due.loaded(DOCUMENT);
        int[] want = {6, 3, 10, 10};
        for (int row = 0; row < 4; row++) {
            due.is("13 row " + row, x.freeIn(row), want[row]);
        }
        due.failsIndex("13 row", () -> x.freeIn(4));
        due.failsIndex("13 below", () -> x.freeIn(-1));
        due.is("13 none", Due.loaded("slab 4 2;flaw 3 0;verse abc;").freeIn(0), 0);
    }

    private static void promise14LongestRun() {
        SlabCutter x = Due.loaded("slab 10 4;flaw 3 0,5 1,0 2,9 2,4 2,0 3,1 3,2 3,3 3,4 3,5 3,6 3,7 3,8 3,9 3;verse ab;");
        int[] want = {6, 5, 4, 0};
        for (int row = 0; row < 4; row++) {
            due.is("14 row " + row, x.longestRun(row), want[row]);
        }
        due.is("14 all", new SlabCutter().longestRun(3), 10);
        due.failsIndex("14 row", () -> x.longestRun(4));
        due.failsIndex("14 below", () -> x.longestRun(-1));
    }

    private static void promise15RowsUsed() {
        due.is("15 none", new SlabCutter().rowsUsed(), 0);
        due.is("15", Due.loaded(DOCUMENT).rowsUsed(), 2);
        due.is("15 gap", Due.loaded("slab 4 6;gap 2;verse a b;verse abc ab;").rowsUsed(), 3);
        due.is("15 missing", Due.loaded("slab 4 2;verse abc ab ab ab;").rowsUsed(), 2);
    }

    private static void promise16FirstMissing() {
        due.is("16 without words", new SlabCutter().firstMissing(), -1);
        due.is("16 none", Due.loaded(DOCUMENT).firstMissing(), -1);
        due.is("16 first", Due.loaded("slab 4 2;flaw 1 0,1 1;verse abc a;").firstMissing(), 0);
        due.is("16", Due.loaded("slab 4 2;verse ab ab ab a;").firstMissing(), 2);
    }
}
