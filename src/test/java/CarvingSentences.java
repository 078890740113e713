/** What the document says of carving and of the chisel: section 3, promises 17 to 22 and 43 to 45. */
final class CarvingSentences extends SentenceGroup {
    // Strokes in their order: a 1, b 6, c 10, d 2, e 4, f 1, g 6, h 5, 1 3; together 38.
    private static final String DOCUMENT =
            "slab 10 4;flaw 3 0, 5 1;gap 0;chisel 10 4;name ab c;verse def gh 1;";
    // The time behind each letter of it, with sharpening ahead of c, d, g and h.
    private static final int[] TIMES = {0, 1, 7, 21, 27, 31, 32, 42, 51, 54};

    CarvingSentences(Sentences doc) {
        super(doc);
    }

    @Override
    void tell() {
        doc.in("Terms");
        order();
        sharpening();
        staying();
        strokesLeft();
        timeFor();
        lettersIn();
        sharpenings();
        timeWith();
        nextCell();
        carve();
        sharpen();
        setChisel();
    }

    private void order() {
        doc.says("3. CARVING. Letters are carved in the order of the words, from the left to the right.", () -> {
            SlabCutter x = Due.loaded("slab 6 3;name bc d;verse a 7;date e;");
            String[] rows = {".bc.d.|a.7...|e.....", ".Bc.d.|a.7...|e.....", ".BC.d.|a.7...|e.....", ".BC.D.|a.7...|e.....",
                ".BC.D.|A.7...|e.....", ".BC.D.|A.7...|e.....", ".BC.D.|A.7...|E....."};
            for (int carved = 0; carved < rows.length; carved++) {
                due.is("behind " + carved, Due.slab(x), rows[carved]);
                due.is("carved", x.property(8), carved);
                x.carve(1);
            }
        });
        doc.says("The chisel has strokes LEFT, at first as many as a sharp one.", () -> {
            due.is("new", new SlabCutter().property(9), 100);
            SlabCutter x = Due.loaded("slab 4 2;chisel 7 2;verse e;");
            due.is("loaded", x.property(9), 7);
            x.carve(1);
            due.is("less then", x.property(9), 3);
        });
    }

    private void sharpening() {
        doc.says("Ahead of a letter, if fewer are left than it has strokes,", () -> {
            SlabCutter x = Due.loaded("slab 6 2;chisel 8 5;verse cb b;");
            due.is("as many left as it has", x.carve(2), 8);
            due.is("none is left", x.property(9), 0);
            due.is("not sharpened", x.property(13), 0);
            SlabCutter y = Due.loaded("slab 6 2;chisel 7 5;verse cb;");
            due.is("one fewer left than it has", y.carve(2), 13);
            due.is("sharpened", y.property(13), 1);
        });
        doc.says("and the chisel is not sharp (fewer are left than a sharp one has),", () -> {
            SlabCutter x = Due.loaded("slab 6 2;chisel 2 7;verse c;");
            due.is("sharp, with too few", x.carve(1), 5);
            due.is("not sharpened", x.property(13), 0);
            SlabCutter y = Due.loaded("slab 6 2;chisel 2 7;verse ac;");
            due.is("one fewer than a sharp one", y.carve(2), 1 + 7 + 5);
            due.is("sharpened", y.property(13), 1);
        });
        doc.says("it is SHARPENED: it has all strokes again, and the time grows by the time for that.", () -> {
            SlabCutter x = Due.loaded("slab 6 2;chisel 6 50;verse cba;");
            due.is("5, and 50 and 3", x.carve(2), 58);
            due.is("6 less 3", x.property(9), 3);
            due.is("time", x.property(12), 58);
            SlabCutter y = Due.loaded("slab 6 2;chisel 1 0;verse aaa;");
            due.is("no time for that", y.carve(3), 3);
            due.is("sharpened", y.property(13), 2);
        });
        doc.says("Then the letter is carved: its strokes are the time that it takes, and are no more left (not below 0).", () -> {
            SlabCutter x = Due.loaded("slab 6 2;flaw 1 0;chisel 20 7;verse c b;");
            due.is("c beside a flaw", x.carve(1), 10);
            due.is("no more left", x.property(9), 10);
            due.is("time", x.property(12), 10);
            SlabCutter y = Due.loaded("slab 6 2;chisel 4 7;verse cc;");
            due.is("too few", y.carve(1), 5);
            due.is("not below 0", y.property(9), 0);
            due.is("not below 0 again", y.carve(1) * 10 + y.property(9), 120);
        });
    }

    private void staying() {
        doc.says("Changes of the words, flaws, gap or slab must leave each carved letter: in each word of which a letter is "
                + "carved all letters and their places stay as they are (strokes may become others);", () -> {
            SlabCutter x = Due.loaded("slab 8 4;verse abc de;verse f;");
            x.carve(4);
            due.failsState("a flaw on a letter of the word that is not carved", () -> Due.flaw(x, 5, 0, true));
            due.is("a flaw beside it", Due.flaw(x, 3, 0, true), 0);
            due.is("other strokes of a carved letter", x.word(0, 4), 1 + 3 + 10);
            due.is("a flaw on a word behind", Due.flaw(x, 0, 1, true), 0);
            due.is("slab", Due.slab(x), "ABC#De..|#f......|........|........");
            due.is("time stays", x.property(12), 11);
        });
        doc.says("what would not is an IllegalStateException.", () -> {
            SlabCutter x = Due.loaded("slab 6 4;gap 1;flaw 5 3;verse ab;name c;date d;");
            x.carve(3);
            due.failsState("words", () -> x.dropPart(0));
            due.failsState("their order", () -> x.movePart(2, 0));
            due.failsState("flaws", () -> Due.flaw(x, 1, 0, true));
            due.failsState("a flaw on a name", () -> Due.flaw(x, 2, 2, true));
            due.failsState("gap", () -> x.setGap(0));
            due.failsState("slab", x::turnSlab);
            due.failsState("rows", () -> x.cutRows(2, false));
        });
        doc.says("Carved are always the first so many letters: a change leaves them if the first words, as far as letters of "
                + "them are carved, are the same then, at the same places.", () -> {
            SlabCutter x = Due.loaded("slab 4 4;verse ab;date ab;verse cd;name ab cd;");
            x.carve(2);
            due.is("another part with the same word there", x.dropPart(0), 4);
            due.is("carved", x.property(8), 2);
            due.is("slab", Due.slab(x), "AB..|cd..|.ab.|.cd.");
            due.failsState("the same letters elsewhere", () -> Due.flaw(x, 1, 0, true));
            due.failsState("another word there", () -> x.movePart(1, 0));
            SlabCutter y = Due.loaded("slab 4 4;verse ab;date abc;");
            y.carve(1);
            due.failsState("a longer word there", () -> y.dropPart(0));
            due.failsState("a longer word there", () -> y.movePart(1, 0));
            SlabCutter z = Due.loaded("slab 4 4;verse abc;date ab;");
            z.carve(2);
            due.failsState("a shorter word there", () -> z.dropPart(0));
            due.is("nothing ahead of it", z.dropPart(1), 1);
            due.failsState("no word there", () -> z.dropPart(0));
            // Twelve bytes are compared, and not what is behind them.
            SlabCutter w = Due.loaded("slab 12 4;verse abcdefghijkl;date b;date abcdefghijkl;name abcdefghijkk;");
            w.carve(1);
            due.is("another word behind it", w.dropPart(1), 3);
            due.is("the same word", w.dropPart(0), 2);
            due.failsState("another twelfth letter", () -> w.dropPart(0));
        });
    }

    private void strokesLeft() {
        doc.in("Promise 17: strokesLeft");
        doc.says("Returns the strokes of all letters that are not carved.", () -> {
            SlabCutter x = Due.loaded(DOCUMENT);
            int[] want = {38, 37, 31, 21, 19, 15, 14, 8, 3, 0, 0};
            for (int carved = 0; carved < want.length; carved++) {
                due.is("behind " + carved, x.strokesLeft(), want[carved]);
                x.carve(1);
            }
            due.is("no letters", new SlabCutter().strokesLeft(), 0);
            due.is("not of a word that is missing", Due.loaded("slab 4 2;verse abc abc abc;").strokesLeft(), 18);
        });
    }

    private void timeFor() {
        doc.in("Promise 18: timeFor");
        doc.says("- `letters`: 0 or more", () -> {
            due.is("0", Due.loaded(DOCUMENT).timeFor(0), 0);
            due.is("greatest", Due.loaded(DOCUMENT).timeFor(Integer.MAX_VALUE), 54);
        });
        doc.says("Returns the time that the next so many letters would take", () -> {
            SlabCutter x = Due.loaded("slab 6 2;verse abc d;");
            due.is("one", x.timeFor(1), 1);
            due.is("two", x.timeFor(2), 4);
            x.carve(2);
            due.is("the next one", x.timeFor(1), 5);
            due.is("the next two", x.timeFor(2), 7);
            due.is("nothing changes", x.property(8) * 100 + x.property(12), 204);
        });
        doc.says("(all that are left, if they are fewer),", () -> {
            SlabCutter x = Due.loaded("slab 6 2;verse abc d;");
            due.is("all", x.timeFor(4), 11);
            due.is("one more", x.timeFor(5), 11);
            x.carve(3);
            due.is("one is left", x.timeFor(300), 2);
            x.carve(1);
            due.is("none is left", x.timeFor(1), 0);
            due.is("none at all", new SlabCutter().timeFor(Integer.MAX_VALUE), 0);
            Due.load(x, "slab 6 2;verse abc;");
            x.carve(2);
            due.is("fewer than there were", x.timeFor(300), 5);
        });
        doc.says("with sharpening.", () -> {
            SlabCutter x = Due.loaded(DOCUMENT);
            for (int letters = 0; letters < TIMES.length; letters++) {
                due.is("for " + letters, x.timeFor(letters), TIMES[letters]);
            }
            x.carve(2);
            due.is("first of all", x.timeFor(1), 14);
            // Behind the last letter it is sharpened no more.
            SlabCutter y = Due.loaded("slab 6 2;chisel 5 90;verse c;");
            due.is("not in the end", y.timeFor(9), 5);
        });
        doc.says("Throws `IllegalArgumentException` if letters is below 0", () -> {
            due.failsArgument("-1", () -> Due.loaded(DOCUMENT).timeFor(-1));
            due.failsArgument("least", () -> Due.loaded(DOCUMENT).timeFor(Integer.MIN_VALUE));
        });
    }

    private void lettersIn() {
        doc.in("Promise 19: lettersIn");
        doc.says("- `time`: 0 or more", () -> {
            due.is("0", Due.loaded(DOCUMENT).lettersIn(0), 0);
            due.is("greatest", Due.loaded(DOCUMENT).lettersIn(Integer.MAX_VALUE), 9);
        });
        doc.says("Returns how many letters could be carved in so much time at most.", () -> {
            SlabCutter x = Due.loaded(DOCUMENT);
            for (int time = 0; time <= 60; time++) {
                int want = 0;
                while (want < 9 && TIMES[want + 1] <= time) {
                    want++;
                }
                due.is("in " + time, x.lettersIn(time), want);
            }
            x.carve(2);
            due.is("from now on, one too few", x.lettersIn(13), 0);
            due.is("from now on", x.lettersIn(14), 1);
            due.is("all that are left", x.lettersIn(47), 7);
            due.is("one too few for all", x.lettersIn(46), 6);
            due.is("nothing changes", x.property(8) * 100 + x.property(12), 207);
            due.is("none at all", new SlabCutter().lettersIn(1000), 0);
        });
        doc.says("Throws `IllegalArgumentException` if time is below 0", () -> {
            due.failsArgument("-1", () -> Due.loaded(DOCUMENT).lettersIn(-1));
            due.failsArgument("least", () -> Due.loaded(DOCUMENT).lettersIn(Integer.MIN_VALUE));
        });
    }

    private void sharpenings() {
        doc.in("Promise 20: sharpenings");
        doc.says("Returns how often the chisel would be sharpened for all letters that are left.", () -> {
            SlabCutter x = Due.loaded(DOCUMENT);
            int[] want = {4, 4, 4, 3, 2, 2, 2, 1, 0, 0, 0};
            for (int carved = 0; carved < want.length; carved++) {
                due.is("behind " + carved, x.sharpenings(), want[carved]);
                x.carve(1);
            }
            due.is("nothing changes", x.property(13), 4);
            due.is("none is left", x.sharpenings(), 0);
            due.is("no letters", new SlabCutter().sharpenings(), 0);
            due.is("ahead of each but the first", Due.loaded("slab 6 2;chisel 1 1;verse aaaa;").sharpenings(), 3);
        });
    }

    private void timeWith() {
        doc.in("Promise 21: timeWith");
        doc.says("- `sharp`: 1 to 999", () -> {
            due.is("1", Due.loaded(DOCUMENT).timeWith(1), 38 + 8 * 4);
            due.is("999", Due.loaded(DOCUMENT).timeWith(999), 38);
        });
        doc.says("Returns the time that all letters would take from the first one on with a chisel with so many strokes, "
                + "sharp at first.", () -> {
            SlabCutter x = Due.loaded(DOCUMENT);
            due.is("10", x.timeWith(10), 54);
            due.is("as many strokes as there are", x.timeWith(38), 38);
            due.is("one fewer", x.timeWith(37), 42);
            x.sharpen();
            x.carve(5);
            due.is("from the first one on", x.timeWith(10), 54);
            due.is("nothing changes", x.property(9) * 10000 + x.property(10) * 100 + x.property(12), 41035);
            due.is("no letters", new SlabCutter().timeWith(1), 0);
        });
        doc.says("Throws `IllegalArgumentException` if sharp is out of range", () -> {
            SlabCutter x = Due.loaded(DOCUMENT);
            for (int sharp : new int[] {0, -1, 1000, Integer.MIN_VALUE, Integer.MAX_VALUE}) {
                due.failsArgument("" + sharp, () -> x.timeWith(sharp));
            }
        });
    }

    private void nextCell() {
        doc.in("Promise 22: nextCell");
        doc.says("Returns 100 times the row of the next letter to be carved, plus its column;", () -> {
            SlabCutter x = Due.loaded(DOCUMENT);
            int[] want = {1, 2, 5, 100, 101, 102, 106, 107, 109};
            for (int carved = 0; carved < want.length; carved++) {
                due.is("behind " + carved, x.nextCell(), want[carved]);
                x.carve(1);
            }
            SlabCutter y = Due.loaded("slab 24 12;verse" + " abcdefghijk abcdefghijkl".repeat(12) + ";");
            y.carve(275);
            due.is("the last cell", y.nextCell(), 1123);
        });
        doc.says("NONE if there is none.", () -> {
            due.is("no words", new SlabCutter().nextCell(), SlabCutter.NONE);
            SlabCutter x = Due.loaded("slab 4 2;verse abc abc abc;");
            x.carve(6);
            due.is("all that are laid", x.nextCell(), SlabCutter.NONE);
            due.is("none is laid", Due.loaded("slab 4 2;flaw 0 0,0 1;verse abcd;").nextCell(), SlabCutter.NONE);
        });
    }

    private void carve() {
        doc.in("Promise 43: carve");
        doc.says("Carves letters, as long as there are any.", () -> {
            SlabCutter x = Due.loaded(DOCUMENT);
            x.carve(7);
            due.is("carved", x.property(8), 7);
            x.carve(3);
            due.is("no more than there are", x.property(8), 9);
            x.carve(1);
            due.is("none is left", x.property(8), 9);
            SlabCutter y = Due.loaded("slab 4 2;verse abc abc abc;");
            y.carve(9);
            due.is("none of a word that is missing", y.property(8), 6);
        });
        doc.says("- `letters`: 1 to 300", () -> {
            SlabCutter x = Due.loaded("slab 24 12;verse" + " abcdefghijk abcdefghijkl".repeat(12) + ";");
            x.carve(1);
            due.is("1", x.property(8), 1);
            x.carve(300);
            due.is("300", x.property(8), 276);
        });
        doc.says("Returns the time that it took.", () -> {
            SlabCutter x = Due.loaded(DOCUMENT);
            for (int letter = 1; letter < TIMES.length; letter++) {
                due.is("letter " + letter, x.carve(1), TIMES[letter] - TIMES[letter - 1]);
                due.is("time", x.property(12), TIMES[letter]);
            }
            due.is("of nothing", x.carve(1), 0);
            due.is("of all", Due.loaded(DOCUMENT).carve(300), 54);
            due.is("without letters", new SlabCutter().carve(300), 0);
        });
        doc.says("Throws `IllegalArgumentException` if letters is out of range", () -> {
            SlabCutter x = Due.loaded(DOCUMENT);
            for (int letters : new int[] {0, -1, 301, Integer.MIN_VALUE, Integer.MAX_VALUE}) {
                due.failsArgument("" + letters, () -> x.carve(letters));
            }
        });
    }

    private void sharpen() {
        doc.in("Promise 44: sharpen");
        doc.says("Sharpens the chisel, whether it is sharp or not;", () -> {
            SlabCutter x = Due.loaded(DOCUMENT);
            x.sharpen();
            due.is("sharp already", x.property(9) * 10 + x.property(13), 101);
            x.carve(3);
            due.is("blunt", x.property(9), 0);
            x.sharpen();
            due.is("sharp again", x.property(9) * 10 + x.property(13), 103);
        });
        doc.says("the time grows by the time for that.", () -> {
            SlabCutter x = Due.loaded(DOCUMENT);
            x.sharpen();
            due.is("once", x.property(12), 4);
            x.carve(1);
            x.sharpen();
            due.is("twice", x.property(12), 9);
        });
        doc.says("Returns how many strokes were left.", () -> {
            SlabCutter x = Due.loaded(DOCUMENT);
            due.is("all", x.sharpen(), 10);
            x.carve(2);
            due.is("some", x.sharpen(), 3);
            x.carve(1);
            due.is("none", x.sharpen(), 0);
            due.is("new", new SlabCutter().sharpen(), 100);
        });
    }

    private void setChisel() {
        doc.in("Promise 45: setChisel");
        doc.says("A new chisel, which is sharp; the time, and how often one was sharpened, stay.", () -> {
            SlabCutter x = Due.loaded(DOCUMENT);
            x.carve(3);
            x.setChisel(30, 6);
            int[] want = {3, 30, 30, 6, 21, 1};
            for (int i = 0; i < want.length; i++) {
                due.is("property " + (8 + i), x.property(8 + i), want[i]);
            }
            due.is("the time for it from now on", x.sharpen() * 100 + x.property(12), 3027);
        });
        doc.says("- `sharp`: 1 to 999 - `time`: 0 to 99", () -> {
            SlabCutter x = new SlabCutter();
            x.setChisel(1, 0);
            due.is("least", x.property(9) * 10000 + x.property(10) * 100 + x.property(11), 10100);
            x.setChisel(999, 99);
            due.is("most", x.property(9) * 1000 + x.property(10), 999999);
            due.is("most", x.property(11), 99);
        });
        doc.says("Returns 100 times the strokes of a sharp one before, plus the time to sharpen it before.", () -> {
            SlabCutter x = new SlabCutter();
            due.is("new", x.setChisel(999, 99), 10010);
            due.is("most", x.setChisel(1, 0), 99999);
            due.is("least", x.setChisel(7, 3), 100);
            due.is("loaded", Due.loaded(DOCUMENT).setChisel(1, 1), 1004);
        });
        doc.says("Throws `IllegalArgumentException` if sharp or time is out of range", () -> {
            SlabCutter x = new SlabCutter();
            for (int sharp : new int[] {0, -1, 1000, Integer.MIN_VALUE, Integer.MAX_VALUE}) {
                due.failsArgument("sharp " + sharp, () -> x.setChisel(sharp, 0));
            }
            for (int time : new int[] {-1, 100, Integer.MIN_VALUE, Integer.MAX_VALUE}) {
                due.failsArgument("time " + time, () -> x.setChisel(1, time));
            }
            due.failsArgument("both", () -> x.setChisel(0, 100));
        });
    }
}
