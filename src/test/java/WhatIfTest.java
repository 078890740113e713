/** Promises 23 to 35: what would be, and the shares of flaws and letters. */
public final class WhatIfTest {
    private static final String DOCUMENT =
            "slab 10 4;flaw 3 0, 5 1;gap 0;chisel 10 4;name ab c;verse def gh 1;";
    private static final Due due = new Due("WhatIfTest");

    public static void main(String[] args) {
        promise23LaidIf();
        promise24WorstFlaw();
        promise25LaidWithout();
        promise26LaidWith();
        promise27LaidTurned();
        promise28LeastRows();
        promise29LaidBut();
        promise30BestPlace();
        carvedLettersDoNotMatter();
        promise31Touching();
        promise32Dear();
        promise33CarvedShare();
        promise34MeanStrokes();
        promise35Density();
        due.end();
    }

    private static void promise23LaidIf() {
        SlabCutter x = Due.loaded("slab 4 2;flaw 1 0;verse abc abc;");
        due.is("23 as it is", x.property(6), 1);
        due.is("23 without the flaw", x.laidIf(1, 0), 2);
        due.is("23 with a flaw", x.laidIf(2, 1), 0);
        due.is("23 with a flaw that is not in the way", x.laidIf(3, 1), 1);
        due.is("23 changes nothing", x.property(6) * 10 + x.property(2), 11);
        due.failsIndex("23 column", () -> x.laidIf(4, 0));
        due.failsIndex("23 column below", () -> x.laidIf(-1, 0));
        due.failsIndex("23 row", () -> x.laidIf(0, 2));
        due.failsIndex("23 row below", () -> x.laidIf(0, -1));
        SlabCutter y = Due.loaded(fortyFlaws() + ";verse b cde;");
        due.is("23 flaws", y.property(2), 40);
        due.is("23 as it is", y.property(6), 2);
        due.is("23 a 41st flaw", y.laidIf(0, 0), 1);
        due.is("23 39 flaws", y.laidIf(0, 10), 2);
    }

    // Cells without a flaw: the first one of row 0, all but the first one of row 10.
    private static String fortyFlaws() {
        StringBuilder text = new StringBuilder("slab 4 11;flaw 0 10");
        for (int i = 1; i < 40; i++) {
            text.append(',').append(i % 4).append(' ').append(i / 4);
        }
        return text.toString();
    }

    private static void promise24WorstFlaw() {
        due.is("24 without flaws", Due.loaded("slab 4 2;verse a;").worstFlaw(), -1);
        due.is("24 first column", Due.loaded("slab 4 2;flaw 0 0,3 1;verse abcd;").worstFlaw(), 0);
        due.is("24 of one", Due.loaded("slab 4 2;flaw 3 1;verse a;").worstFlaw(), 103);
        SlabCutter x = Due.loaded("slab 5 3;flaw 4 0,1 1,2 2,3 2;verse abcd abcde abcd;");
        // Without (4,0) as before; without (1,1) abcde fits into row 1; without the others it does not.
        due.is("24", x.worstFlaw(), 101);
        due.is("24 changes nothing", Due.slab(x), "abcd#|.#...|..##.");
        due.is("24 behind a text with an error", Due.load(x, "slab 4 2;flaw 0 0;x"), SlabCutter.PARSE_ERROR);
        due.is("24 is asked of the slab at hand", x.worstFlaw(), 101);
        SlabCutter y = Due.loaded("slab 4 2;flaw 3 1,0 1,2 0,1 0;verse a;");
        due.is("24 least number of several", y.worstFlaw(), 1);
        String parts = ";gap 3;verse a;verse a;verse abcd;";
        // The third part begins in row 8; what is freed below it counts, if the row is free then.
        SlabCutter z = Due.loaded("slab 4 12;flaw 0 10,2 11,3 0,0 8,1 8,1 9" + parts);
        due.is("24 row 9", z.worstFlaw(), 901);
        SlabCutter w = Due.loaded("slab 4 12;flaw 2 11,3 0,0 8,1 8,1 9,2 9,0 10,2 10" + parts);
        due.is("24 row 11", w.worstFlaw(), 1102);
    }

    private static void promise25LaidWithout() {
        due.is("25", Due.loaded("slab 4 2;flaw 1 0,1 1;verse abc abc abc;").laidWithout(), 2);
        SlabCutter x = Due.loaded("slab 4 2;flaw 1 0;verse abc a;");
        due.is("25 all", x.laidWithout(), 2);
        due.is("25 changes nothing", x.property(2), 1);
        due.is("25 without words", new SlabCutter().laidWithout(), 0);
        due.is("25 without flaws", Due.loaded(DOCUMENT).laidWithout(), 5);
    }

    private static void promise26LaidWith() {
        SlabCutter x = Due.loaded("slab 4 5;gap 1;verse a;verse b b b;verse c;");
        // Two b lie in one row, the third in the next.
        int[] want = {5, 4, 4, 3};
        for (int gap = 0; gap <= 3; gap++) {
            due.is("26 gap " + gap, x.laidWith(gap), want[gap]);
        }
        due.is("26 changes nothing", x.property(3), 1);
        due.failsArgument("26 below", () -> x.laidWith(-1));
        due.failsArgument("26 above", () -> x.laidWith(4));
    }

    private static void promise27LaidTurned() {
        SlabCutter x = Due.loaded("slab 5 3;flaw 0 1,0 2;gap 0;verse abcd e;verse abcde;");
        due.is("27 as it is", x.property(6), 2);
        // Turned the flaws are at (4,1) and (4,0): abcd, e in row 1, abcde in row 2.
        due.is("27", x.laidTurned(), 3);
        due.is("27 changes nothing", x.cell(0, 1), -1);
        due.is("27 without flaws", Due.loaded("slab 4 2;verse ab ab ab;").laidTurned(), 2);
    }

    private static void promise28LeastRows() {
        due.is("28 without words", new SlabCutter().leastRows(), 1);
        due.is("28", Due.loaded(DOCUMENT).leastRows(), 2);
        due.is("28 one row", Due.loaded("slab 4 3;verse a b;").leastRows(), 1);
        due.is("28 all rows", Due.loaded("slab 4 4;gap 2;verse a;verse b;").leastRows(), 4);
        due.is("28 around flaws", Due.loaded("slab 4 4;flaw 0 0,1 0,2 0,3 0;verse a;").leastRows(), 2);
        due.is("28 missing", Due.loaded("slab 4 2;verse ab ab ab;").leastRows(), -1);
    }

    private static void promise29LaidBut() {
        SlabCutter x = Due.loaded("slab 4 5;gap 1;verse ab ab ab;date c;name d e;");
        due.is("29 as it is", x.property(6), 4);
        due.is("29 but 0", x.laidBut(0), 3);
        due.is("29 but 1", x.laidBut(1), 5);
        due.is("29 but 2", x.laidBut(2), 4);
        due.is("29 changes nothing", x.property(4), 3);
        due.failsIndex("29 no part", () -> x.laidBut(3));
        due.failsIndex("29 below", () -> x.laidBut(-1));
        due.is("29 but the only one", Due.loaded("slab 4 2;verse a;").laidBut(0), 0);
        SlabCutter y = Due.loaded(DOCUMENT);
        due.is("29 but the name", y.laidBut(0), 3);
        due.is("29 but the verse", y.laidBut(1), 2);
    }

    private static void promise30BestPlace() {
        SlabCutter y = Due.loaded("slab 4 3;flaw 3 0,3 1;gap 0;verse abcd;date ab;name b;");
        due.is("30 as it is", y.property(6), 1);
        due.is("30 to the end", y.bestPlace(0), 2);
        due.is("30 date ahead of it", y.bestPlace(1), 0);
        due.is("30 name ahead of it", y.bestPlace(2), 0);
        due.is("30 changes nothing", y.part(0, 0), SlabCutter.VERSE);
        due.is("30 several", Due.loaded("slab 4 3;gap 0;verse a;date b;name c;").bestPlace(2), 0);
        SlabCutter z = Due.loaded("slab 4 4;flaw 0 0,0 2,0 3;gap 0;verse a;date b;verse abcd;name c;");
        // abcd fits into row 1 alone: behind one part.
        due.is("30 between", z.bestPlace(2), 1);
        due.failsIndex("30 no part", () -> y.bestPlace(3));
        due.failsIndex("30 below", () -> y.bestPlace(-1));
    }

    private static void carvedLettersDoNotMatter() {
        SlabCutter x = Due.loaded("slab 4 3;flaw 3 0,3 1;gap 0;verse abcd;date ab;name b;");
        x.carve(4);
        due.is("carved laid", x.property(6), 1);
        due.is("carved laidIf", x.laidIf(3, 0), 3);
        due.is("carved laidBut", x.laidBut(0), 2);
        due.is("carved bestPlace", x.bestPlace(0), 2);
        due.is("carved laidTurned", x.laidTurned(), 3);
        due.is("carved laidWith", x.laidWith(3), 1);
        due.is("carved laidWithout", x.laidWithout(), 3);
        due.is("carved worstFlaw", x.worstFlaw(), 3);
    }

    private static void promise31Touching() {
        due.is("31", Due.loaded(DOCUMENT).touching(), 2);
        due.is("31 none", Due.loaded("slab 4 2;verse abcd;").touching(), 0);
        // Left, right and below touch; across a corner and two columns away do not.
        due.is("31 sides", Due.loaded("slab 8 3;flaw 0 0,4 0,1 1,2 1,0 1,4 1,6 0;verse abc;").touching(), 4);
        due.is("31 above", Due.loaded("slab 4 3;flaw 0 0,3 0,3 2;verse abcd;").touching(), 3);
        // Only the very next cell is beside it.
        due.is("31 right of it", Due.loaded("slab 6 2;flaw 1 0;verse a;").touching(), 1);
        due.is("31 left of it", Due.loaded("slab 6 2;flaw 0 0;verse a;").touching(), 1);
        due.is("31 two to the right", Due.loaded("slab 6 2;flaw 2 0;verse a;").touching(), 0);
        due.is("31 two to the left", Due.loaded("slab 6 2;flaw 0 0,1 0;verse a;").touching(), 1);
        due.is("31 two below", Due.loaded("slab 6 3;flaw 0 2;verse a;").touching(), 0);
        // One flaw with two letters counts once; the first column is not beside the last of the row above.
        due.is("31 once", Due.loaded("slab 5 3;flaw 1 0,1 2,0 2;verse a bc;").touching(), 1);
        due.is("31 no way round", Due.loaded("slab 4 3;flaw 0 1,0 0;verse bcd;").touching(), 1);
    }

    private static void promise32Dear() {
        SlabCutter x = Due.loaded(DOCUMENT);
        due.is("32", x.dear(), 3 + 5 + 3);
        x.carve(4);
        due.is("32 carved letters too", x.dear(), 11);
        due.is("32 none", new SlabCutter().dear(), 0);
        due.is("32 once for two flaws", Due.loaded("slab 4 2;flaw 1 0,0 1;verse e;").dear(), 4);
        due.is("32 one flaw, two letters", Due.loaded("slab 4 2;flaw 1 0;verse e 2;").dear(), 8);
    }

    private static void promise33CarvedShare() {
        SlabCutter x = Due.loaded(DOCUMENT);
        due.is("33 none", x.carvedShare(), 0.0f);
        x.carve(4);
        due.is("33 some", x.carvedShare(), 4f / 9f);
        x.carve(5);
        due.is("33 all", x.carvedShare(), 1.0f);
        due.is("33 without letters", new SlabCutter().carvedShare(), 1.0f);
    }

    private static void promise34MeanStrokes() {
        SlabCutter x = Due.loaded(DOCUMENT);
        due.is("34", x.meanStrokes(), 38.0 / 9.0);
        x.carve(3);
        due.is("34 carved letters too", x.meanStrokes(), 38.0 / 9.0);
        due.is("34 without letters", new SlabCutter().meanStrokes(), 0.0);
        due.is("34 of words that are laid", Due.loaded("slab 4 2;verse abc abc eee;").meanStrokes(), 3.0);
    }

    private static void promise35Density() {
        due.is("35", Due.loaded(DOCUMENT).density(), 9.0 / 38.0);
        due.is("35 without letters", new SlabCutter().density(), 0.0);
        due.is("35 full", Due.loaded("slab 4 2;verse abcd abcd;").density(), 1.0);
        due.is("35 no cells", Due.loaded("slab 4 2;flaw 0 0,1 0,2 0,3 0,0 1,1 1,2 1,3 1;verse a;").density(), 0.0);
        due.is("35 one cell", Due.loaded("slab 4 2;flaw 0 0,1 0,2 0,3 0,0 1,2 1,3 1;verse a;").density(), 1.0);
    }
}
