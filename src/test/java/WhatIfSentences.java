/** What the document says of what would be, and of flaws and letters: promises 23 to 35. */
final class WhatIfSentences extends SentenceGroup {
    private static final String DOCUMENT =
            "slab 10 4;flaw 3 0, 5 1;gap 0;chisel 10 4;name ab c;verse def gh 1;";

    WhatIfSentences(Sentences doc) {
        super(doc);
    }

    @Override
    void tell() {
        laidIf();
        worstFlaw();
        laidWithout();
        laidWith();
        laidTurned();
        leastRows();
        laidBut();
        bestPlace();
        touching();
        dear();
        carvedShare();
        meanStrokes();
        density();
    }

    // 40 flaws: no cell of the rows 1 to 9 is free, of row 0 the first one alone, of row 10 all but the first.
    private static String fortyFlaws() {
        StringBuilder text = new StringBuilder("slab 4 11;flaw 0 10");
        for (int i = 1; i < 40; i++) {
            text.append(',').append(i % 4).append(' ').append(i / 4);
        }
        return text.toString();
    }

    private void laidIf() {
        doc.in("Promise 23: laidIf");
        doc.says("- `column`: a column - `row`: a row Returns how many words would be laid if this cell had a flaw,", () -> {
            SlabCutter x = Due.loaded("slab 4 2;verse abcd abcd;");
            due.is("first cell", x.laidIf(0, 0), 1);
            due.is("last cell", x.laidIf(3, 1), 1);
            SlabCutter y = Due.loaded("slab 5 2;verse abcd abcd;");
            due.is("in the way", y.laidIf(3, 0), 1);
            due.is("not in the way", y.laidIf(4, 0), 2);
            SlabCutter z = Due.loaded(fortyFlaws() + ";verse b cde;");
            due.is("as it is", z.property(6), 2);
            due.is("a 41st flaw", z.laidIf(0, 0), 1);
        });
        doc.says("or none if it has one.", () -> {
            SlabCutter x = Due.loaded("slab 4 2;flaw 0 0,3 1;verse abcd;");
            due.is("as it is", x.property(6), 0);
            due.is("first cell", x.laidIf(0, 0), 1);
            due.is("last cell", x.laidIf(3, 1), 1);
            due.is("another flaw", x.laidIf(1, 0), 0);
            due.is("nothing changes", x.property(6) * 10 + x.property(2), 2);
        });
        doc.says("Throws `IndexOutOfBoundsException` if there is no such cell", () -> {
            SlabCutter x = Due.loaded("slab 4 3;verse ab;");
            noSuchCell(x::laidIf);
        });
    }

    private void worstFlaw() {
        doc.in("Promise 24: worstFlaw");
        doc.says("Returns the cell with a flaw without which the most words would be laid:", () -> {
            // Without 101 abcde fits into row 1 and abcd into none behind; without the others there is no row for abcde.
            SlabCutter x = Due.loaded("slab 5 3;flaw 4 0,1 1,2 2,3 2;verse abcd abcde abcd;");
            due.is("the second", x.worstFlaw(), 101);
            due.is("nothing changes", x.property(2) * 10 + x.property(6), 41);
            Due.load(x, "slab 4 2;flaw 0 0;?");
            due.is("behind a text with an error", x.worstFlaw(), 101);
            // None more without 0, two more without 1, one more without 102.
            SlabCutter y = Due.loaded("slab 5 2;flaw 0 0,2 1,1 0;verse abcd ab;");
            due.is("slab", Due.slab(y), "##...|..#..");
            due.is("of three", y.worstFlaw(), 1);
        });
        doc.says("100 times its row, plus its column,", () -> {
            due.is("first cell", Due.loaded("slab 4 2;flaw 0 0,1 1;verse abcd;").worstFlaw(), 0);
            due.is("last cell", Due.loaded("slab 24 12;flaw 23 11;").worstFlaw(), 1123);
        });
        doc.says("the least such number of several;", () -> {
            due.is("no words", Due.loaded("slab 4 2;flaw 3 1,0 1,2 0,1 1;").worstFlaw(), 2);
            due.is("the row counts first", Due.loaded("slab 4 3;flaw 0 2,1 1,3 0;verse a;").worstFlaw(), 3);
            due.is("the column counts then", Due.loaded("slab 4 3;flaw 3 1,1 1,2 1;verse a;").worstFlaw(), 101);
        });
        doc.says("NONE without flaws.", () -> {
            due.is("none", Due.loaded("slab 4 2;verse a;").worstFlaw(), SlabCutter.NONE);
            due.is("new", new SlabCutter().worstFlaw(), SlabCutter.NONE);
            SlabCutter x = Due.loaded("slab 4 2;flaw 2 1;verse a;");
            due.is("one", x.worstFlaw(), 102);
            x.setFlaw(2, 1, false);
            due.is("none any more", x.worstFlaw(), SlabCutter.NONE);
        });
    }

    private void laidWithout() {
        doc.in("Promise 25: laidWithout");
        doc.says("Returns how many words would be laid without any flaws.", () -> {
            SlabCutter x = Due.loaded("slab 4 2;flaw 0 0,0 1;verse abcd abcd abcd;");
            due.is("as it is", x.property(6), 0);
            due.is("without", x.laidWithout(), 2);
            due.is("nothing changes", x.property(6) * 10 + x.property(2), 2);
            due.is("no flaws", Due.loaded("slab 4 2;verse abcd abcd abcd;").laidWithout(), 2);
            due.is("no words", Due.loaded("slab 4 2;flaw 0 0;").laidWithout(), 0);
            due.is("all are laid", Due.loaded("slab 6 2;flaw 0 1;name ab;verse c;").laidWithout(), 2);
            due.is("40 flaws", Due.loaded(fortyFlaws() + ";verse abcd abcd abcd;").laidWithout(), 3);
        });
    }

    private void laidWith() {
        doc.in("Promise 26: laidWith");
        doc.says("- `gap`: 0 to 3 Returns how many words would be laid with this gap.", () -> {
            SlabCutter x = Due.loaded("slab 4 5;gap 1;verse a;verse b b b;verse c;");
            int[] want = {5, 4, 4, 3};
            for (int gap = 0; gap < want.length; gap++) {
                due.is("gap " + gap, x.laidWith(gap), want[gap]);
            }
            due.is("nothing changes", x.property(3) * 10 + x.property(6), 14);
        });
        doc.says("Throws `IllegalArgumentException` if gap is out of range", () -> {
            SlabCutter x = Due.loaded(DOCUMENT);
            for (int gap : new int[] {-1, 4, Integer.MIN_VALUE, Integer.MAX_VALUE}) {
                due.failsArgument("" + gap, () -> x.laidWith(gap));
            }
        });
    }

    private void laidTurned() {
        doc.in("Promise 27: laidTurned");
        doc.says("Returns how many words would be laid if the slab was turned.", () -> {
            SlabCutter x = Due.loaded("slab 5 3;flaw 0 1,0 2;gap 0;verse abcd e;verse abcde;");
            due.is("as it is", x.property(6), 2);
            due.is("turned", x.laidTurned(), 3);
            due.is("nothing changes", Due.slab(x), "abcd.|#e...|#....");
            due.is("the first cell", Due.loaded("slab 4 2;flaw 0 0;verse abcd abcd;").laidTurned(), 1);
            due.is("no flaws", Due.loaded("slab 4 2;verse ab ab ab;").laidTurned(), 2);
            due.is("no words", Due.loaded("slab 4 2;flaw 0 0;").laidTurned(), 0);
        });
    }

    private void leastRows() {
        doc.in("Promise 28: leastRows");
        doc.says("Returns the fewest rows of the slab, from the top, 1 to all, with which all words would be laid", () -> {
            due.is("1", Due.loaded("slab 4 3;verse a b;").leastRows(), 1);
            due.is("2", Due.loaded(DOCUMENT).leastRows(), 2);
            due.is("all", Due.loaded("slab 4 4;gap 2;verse a;verse b;").leastRows(), 4);
            due.is("all twelve", Due.loaded("slab 4 12;verse" + " abc".repeat(12) + ";").leastRows(), 12);
            due.is("around flaws", Due.loaded("slab 4 4;flaw 0 0,1 0,2 0,3 0;verse a;").leastRows(), 2);
            due.is("a name", Due.loaded("slab 4 5;name ab cd ef;").leastRows(), 3);
        });
        doc.says("(1 without words);", () -> {
            due.is("new", new SlabCutter().leastRows(), 1);
            due.is("all cells with flaws", Due.loaded("slab 4 2;flaw 0 0,1 0,2 0,3 0,0 1,1 1,2 1,3 1;").leastRows(), 1);
        });
        doc.says("NONE if they are not.", () -> {
            due.is("one is missing", Due.loaded("slab 4 2;verse ab ab ab;").leastRows(), SlabCutter.NONE);
            due.is("all are missing", Due.loaded("slab 4 2;flaw 0 0,0 1;verse abcd;").leastRows(), SlabCutter.NONE);
        });
    }

    private void laidBut() {
        doc.in("Promise 29: laidBut");
        doc.says("- `part`: number of a part Returns how many words would be laid without this part.", () -> {
            SlabCutter x = Due.loaded("slab 4 5;gap 1;verse ab ab ab;date c;name d e;");
            due.is("as it is", x.property(6), 4);
            due.is("but the first", x.laidBut(0), 3);
            due.is("but the second", x.laidBut(1), 5);
            due.is("but the third", x.laidBut(2), 4);
            due.is("nothing changes", x.property(4) * 10 + x.property(5), 36);
            due.is("but the only one", Due.loaded("slab 4 2;verse a;").laidBut(0), 0);
            due.is("but the tenth", Due.loaded("slab 4 12;" + "verse a;".repeat(10)).laidBut(9), 9);
        });
        doc.says("Throws `IndexOutOfBoundsException` if there is no such part", () -> {
            noSuchPart(2, Due.loaded("slab 4 5;verse ab;date c;")::laidBut);
            noSuchPart(0, new SlabCutter()::laidBut);
        });
    }

    private void bestPlace() {
        doc.in("Promise 30: bestPlace");
        doc.says("- `part`: number of a part Returns the number of the place to which this part should be moved so that the "
                + "most words are laid,", () -> {
            SlabCutter x = Due.loaded("slab 4 3;flaw 3 0,3 1;gap 0;verse abcd;date ab;name b;");
            due.is("to the end", x.bestPlace(0), 2);
            due.is("ahead of it", x.bestPlace(1), 0);
            due.is("ahead of it", x.bestPlace(2), 0);
            due.is("nothing changes", x.part(0, 0) * 10 + x.property(6), 21);
            // abcd fits into row 1 alone: behind one part.
            SlabCutter y = Due.loaded("slab 4 4;flaw 0 0,0 2,0 3;gap 0;verse a;date b;verse abcd;name c;");
            due.is("between", y.bestPlace(2), 1);
            SlabCutter z = Due.loaded("slab 4 4;flaw 0 0,0 2,0 3;gap 0;verse a;verse abcd;date b;name c;");
            due.is("where it is", z.bestPlace(1), 1);
        });
        doc.says("the lowest one of several.", () -> {
            due.is("all the same", Due.loaded("slab 4 3;gap 0;verse a;date b;name c;").bestPlace(2), 0);
            due.is("the only one", Due.loaded("slab 4 3;verse a;").bestPlace(0), 0);
            due.is("none is laid", Due.loaded("slab 4 2;flaw 0 0,0 1;verse abcd;verse abcd;").bestPlace(1), 0);
            // abcd fits into the rows 2 and 3: two of the places are as good.
            SlabCutter x = Due.loaded("slab 4 4;flaw 0 0,0 1;gap 0;verse abcd;date b;verse c;name d;");
            due.is("the third of four", x.bestPlace(0), 2);
            SlabCutter y = Due.loaded("slab 4 3;flaw 0 0,0 1,0 2;verse abcd;verse b;verse c;");
            y.dropPart(2);
            due.is("none that is there no more", y.bestPlace(0), 1);
        });
        doc.says("Throws `IndexOutOfBoundsException` if there is no such part", () -> {
            noSuchPart(2, Due.loaded("slab 4 5;verse ab;date c;")::bestPlace);
            noSuchPart(0, new SlabCutter()::bestPlace);
        });
    }

    private void touching(String text, int want) {
        due.is("flaws of " + text, Due.loaded(text).touching(), want);
    }

    private void touching() {
        doc.in("Promise 31: touching");
        doc.says("Returns the flaws that touch a letter (beside it, above it or below it).", () -> {
            touching("slab 4 2;verse abcd;", 0);
            touching("slab 4 2;flaw 0 0;", 0);
            touching("slab 6 3;flaw 1 0;verse a;", 1);
            touching("slab 6 3;flaw 0 0;verse a;", 1);
            touching("slab 6 3;flaw 0 1;verse a;", 1);
            touching("slab 4 3;flaw 0 0;verse abcd;", 1);
            touching("slab 6 3;flaw 1 1;verse a;", 0);
            touching("slab 6 3;flaw 2 0;verse a;", 0);
            touching("slab 6 3;flaw 0 2;verse a;", 0);
            // Each flaw but once, whatever number of letters it touches; the end of a row is not beside the next one.
            touching("slab 5 3;flaw 1 0,1 2,0 2;verse a bc;", 1);
            touching("slab 4 3;flaw 0 1,0 0;verse bcd;", 1);
            touching("slab 8 3;flaw 0 0,4 0,1 1,2 1,0 1,4 1,6 0;verse abc;", 4);
            touching("slab 24 12;flaw 23 11,22 10;gap 3;verse a;verse a;verse a" + " abcdefghijk abcdefghijk".repeat(4) + ";",
                    2);
            touching("slab 4 2;flaw 0 0,0 1;verse abcd;", 0);
        });
    }

    private void dear() {
        doc.in("Promise 32: dear");
        doc.says("Returns the strokes that all letters have more by flaws that touch them.", () -> {
            SlabCutter x = Due.loaded(DOCUMENT);
            due.is("b, c and g", x.dear(), 3 + 5 + 3);
            x.carve(4);
            due.is("carved letters too", x.dear(), 11);
            due.is("no flaws", Due.loaded("slab 4 2;verse ab;").dear(), 0);
            due.is("no letters", Due.loaded("slab 4 2;flaw 0 0;").dear(), 0);
            due.is("two flaws, one letter", Due.loaded("slab 4 2;flaw 1 0,0 1;verse e;").dear(), 4);
            due.is("one flaw, two letters", Due.loaded("slab 4 2;flaw 1 0;verse e 2;").dear(), 8);
            due.is("a flaw that touches none", Due.loaded("slab 4 2;flaw 1 1;verse e;").dear(), 0);
            SlabCutter y = Due.loaded("slab 4 2;flaw 1 0,1 1;verse e;date e;");
            due.is("two letters", y.dear(), 8);
            y.dropPart(1);
            due.is("one letter from now on", y.dear(), 4);
        });
    }

    private void carvedShare() {
        doc.in("Promise 33: carvedShare");
        doc.says("Returns letters that are carved as a float divided by all letters as a float;", () -> {
            SlabCutter x = Due.loaded("slab 4 2;verse abc;");
            float[] want = {0.0f, 1.0f / 3.0f, 2.0f / 3.0f, 1.0f};
            for (float share : want) {
                due.is("share", x.carvedShare(), share);
                x.carve(1);
            }
            SlabCutter y = Due.loaded("slab 4 2;verse abcd abc abcd;");
            y.carve(3);
            due.is("not of words that are missing", y.carvedShare(), 3.0f / 7.0f);
        });
        doc.says("1.0f without letters.", () -> {
            due.is("no words", new SlabCutter().carvedShare(), 1.0f);
            due.is("none is laid", Due.loaded("slab 4 2;flaw 0 0,0 1;verse abcd;").carvedShare(), 1.0f);
        });
    }

    private void meanStrokes() {
        doc.in("Promise 34: meanStrokes");
        doc.says("Returns the mean strokes of the letters, as doubles;", () -> {
            SlabCutter x = Due.loaded(DOCUMENT);
            due.is("38 of 9", x.meanStrokes(), 38.0 / 9.0);
            x.carve(3);
            due.is("carved letters too", x.meanStrokes(), 38.0 / 9.0);
            due.is("not of words that are missing", Due.loaded("slab 4 2;verse abc abc eee;").meanStrokes(), 3.0);
            due.is("one", Due.loaded("slab 4 2;verse a;").meanStrokes(), 1.0);
        });
        doc.says("0.0 without any.", () -> {
            due.is("no words", new SlabCutter().meanStrokes(), 0.0);
            due.is("none is laid", Due.loaded("slab 4 2;flaw 0 0,0 1;verse abcd;").meanStrokes(), 0.0);
        });
    }

    private void density() {
        doc.in("Promise 35: density");
        doc.says("Returns letters divided by cells without flaws, as doubles;", () -> {
            due.is("9 of 38", Due.loaded(DOCUMENT).density(), 9.0 / 38.0);
            due.is("no letters", new SlabCutter().density(), 0.0);
            due.is("full", Due.loaded("slab 4 2;verse abcd abcd;").density(), 1.0);
            due.is("one cell", Due.loaded("slab 4 2;flaw 0 0,1 0,2 0,3 0,0 1,2 1,3 1;verse a;").density(), 1.0);
            due.is("not of words that are missing", Due.loaded("slab 4 2;verse abc abc abc;").density(), 0.75);
        });
        doc.says("0.0 without such cells.", () -> {
            String all = "slab 4 2;flaw 0 0,1 0,2 0,3 0,0 1,1 1,2 1,3 1;";
            due.is("no words", Due.loaded(all).density(), 0.0);
            due.is("a word that is missing", Due.loaded(all + "verse a;").density(), 0.0);
        });
    }
}
