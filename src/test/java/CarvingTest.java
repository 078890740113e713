/** Promises 17 to 22 and 43 to 45: strokes, time and the chisel. */
public final class CarvingTest {
    // Strokes in their order: a 1, b 6, c 10, d 2, e 4, f 1, g 6, h 5, 1 3; together 38.
    private static final String DOCUMENT =
            "slab 10 4;flaw 3 0, 5 1;gap 0;chisel 10 4;name ab c;verse def gh 1;";
    // The time behind each letter of it, with sharpening ahead of c, d, g and h.
    private static final int[] TIMES = {0, 1, 7, 21, 27, 31, 32, 42, 51, 54};
    private static final Due due = new Due("CarvingTest");

    public static void main(String[] args) {
        promise17StrokesLeft();
        promise18TimeFor();
        promise19LettersIn();
        promise20Sharpenings();
        promise21TimeWith();
        promise22NextCell();
        promise43Carve();
        promise43CarveTheChiselsEdges();
        promise44Sharpen();
        promise45SetChisel();
        due.end();
    }

    private static void promise17StrokesLeft() {
        SlabCutter x = Due.loaded(DOCUMENT);
        int[] want = {38, 37, 31, 21, 19, 15, 14, 8, 3, 0};
        for (int carved = 0; carved < want.length; carved++) {
            due.is("17 behind " + carved, x.strokesLeft(), want[carved]);
            x.carve(1);
        }
        due.is("17 without letters", new SlabCutter().strokesLeft(), 0);
        due.is("17 of words that are laid", Due.loaded("slab 4 2;verse abc abc abc;").strokesLeft(), 18);
    }

    private static void promise18TimeFor() {
        SlabCutter x = Due.loaded(DOCUMENT);
        for (int letters = 0; letters < TIMES.length; letters++) {
            due.is("18 for " + letters, x.timeFor(letters), TIMES[letters]);
        }
        due.is("18 all", x.timeFor(10), 54);
        due.is("18 greatest", x.timeFor(Integer.MAX_VALUE), 54);
        due.is("18 changes nothing", x.property(12) + x.property(8) + x.property(9) + x.undoCount(), 11);
        x.carve(2);
        due.is("18 from the next", x.timeFor(1), 14);
        due.is("18 of what is left", x.timeFor(300), 47);
        x.carve(300);
        due.is("18 of nothing", x.timeFor(5), 0);
        Due.load(x, "slab 10 4;chisel 10 4;verse abc;");
        x.carve(2);
        due.is("18 of fewer letters than there were", x.timeFor(Integer.MAX_VALUE), 5);
        due.is("20 of fewer letters than there were", x.sharpenings(), 0);
        due.is("17 of fewer letters than there were", x.strokesLeft(), 5);
        due.failsArgument("18 below", () -> x.timeFor(-1));
        due.failsArgument("18 least", () -> x.timeFor(Integer.MIN_VALUE));
    }

    private static void promise19LettersIn() {
        SlabCutter x = Due.loaded(DOCUMENT);
        for (int time = 0; time <= 60; time++) {
            int want = 0;
            while (want < 9 && TIMES[want + 1] <= time) {
                want++;
            }
            due.is("19 in " + time, x.lettersIn(time), want);
        }
        due.is("19 greatest", x.lettersIn(Integer.MAX_VALUE), 9);
        x.carve(2);
        due.is("19 from the next", x.lettersIn(13), 0);
        due.is("19 with sharpening", x.lettersIn(14), 1);
        due.is("19 changes nothing", x.property(12), 7);
        due.failsArgument("19 below", () -> x.lettersIn(-1));
        due.failsArgument("19 least", () -> x.lettersIn(Integer.MIN_VALUE));
        due.is("19 without letters", new SlabCutter().lettersIn(1000), 0);
    }

    private static void promise20Sharpenings() {
        SlabCutter x = Due.loaded(DOCUMENT);
        due.is("20", x.sharpenings(), 4);
        int[] want = {4, 4, 3, 2, 2, 2, 1, 0, 0};
        for (int carved = 1; carved <= 9; carved++) {
            x.carve(1);
            due.is("20 behind " + carved, x.sharpenings(), want[carved - 1]);
        }
        due.is("20 changes nothing", x.property(13), 4);
        due.is("20 without letters", new SlabCutter().sharpenings(), 0);
    }

    private static void promise21TimeWith() {
        SlabCutter x = Due.loaded(DOCUMENT);
        due.is("21 the same", x.timeWith(10), 54);
        due.is("21 with 1", x.timeWith(1), 38 + 8 * 4);
        due.is("21 with 999", x.timeWith(999), 38);
        due.is("21 with 38", x.timeWith(38), 38);
        due.is("21 with 37", x.timeWith(37), 42);
        x.carve(4);
        x.sharpen();
        due.is("21 from the first one on", x.timeWith(10), 54);
        x.setChisel(500, 9);
        due.is("21 time of the chisel at hand", x.timeWith(10), 38 + 4 * 9);
        due.failsArgument("21 below", () -> x.timeWith(0));
        due.failsArgument("21 above", () -> x.timeWith(1000));
        due.failsArgument("21 least", () -> x.timeWith(Integer.MIN_VALUE));
        due.is("21 without letters", new SlabCutter().timeWith(1), 0);
    }

    private static void promise22NextCell() {
        SlabCutter x = Due.loaded(DOCUMENT);
        int[] want = {1, 2, 5, 100, 101, 102, 106, 107, 109, -1};
        for (int carved = 0; carved < want.length; carved++) {
            due.is("22 behind " + carved, x.nextCell(), want[carved]);
            x.carve(1);
        }
        due.is("22 without letters", new SlabCutter().nextCell(), -1);
        due.is("22 missing", Due.loaded("slab 4 2;flaw 1 0,1 1;verse abc;").nextCell(), -1);
        SlabCutter y = Due.loaded("slab 24 12;gap 3;verse a;verse a;verse abcdefghijk abcdefghijkl;");
        y.carve(2 + 11 + 11);
        due.is("22 far", y.nextCell(), 823);
    }

    private static void promise43Carve() {
        SlabCutter x = Due.loaded(DOCUMENT);
        due.is("43", x.carve(2), 7);
        due.is("43 left", x.property(9), 3);
        due.is("43 carved", x.property(8), 2);
        due.is("43 with sharpening", x.carve(1), 14);
        due.is("43 nothing left", x.property(9), 0);
        due.is("43 sharpened", x.property(13), 1);
        due.is("43 as many as there are", x.carve(300), 33);
        due.is("43 time", x.property(12), 54);
        due.is("43 sharpened", x.property(13), 4);
        due.is("43 left", x.property(9), 2);
        due.is("43 carved", x.property(8), 9);
        due.is("43 none left", x.carve(1), 0);
        due.is("43 can be undone", x.undoCount(), 5);
        due.failsArgument("43 below", () -> x.carve(0));
        due.failsArgument("43 above", () -> x.carve(301));
        due.failsArgument("43 least", () -> x.carve(Integer.MIN_VALUE));
        due.failsArgument("43 greatest", () -> x.carve(Integer.MAX_VALUE));
        due.is("43 a call that throws is none to undo", x.undoCount(), 5);
        due.is("43 without letters", new SlabCutter().carve(300), 0);
    }

    private static void promise43CarveTheChiselsEdges() {
        // As many left as the letter has strokes: it is carved without sharpening.
        SlabCutter x = Due.loaded("slab 6 2;chisel 8 5;verse cb a;");
        due.is("43 just enough", x.carve(2), 8);
        due.is("43 blunt", x.property(9), 0);
        due.is("43 sharpened for a", x.carve(1), 6);
        due.is("43 left", x.property(9), 7);
        // A sharp chisel with too few strokes carves all the same, and is not below 0 then.
        SlabCutter y = Due.loaded("slab 6 2;chisel 2 7;verse cc e;");
        due.is("43 too few", y.carve(1), 5);
        due.is("43 not below 0", y.property(9), 0);
        due.is("43 again", y.carve(1), 12);
        due.is("43 once", y.property(13), 1);
        y.sharpen();
        due.is("43 sharp already", y.carve(1), 4);
        due.is("43 twice", y.property(13), 2);
    }

    private static void promise44Sharpen() {
        SlabCutter x = Due.loaded(DOCUMENT);
        due.is("44 sharp already", x.sharpen(), 10);
        due.is("44 time", x.property(12), 4);
        due.is("44 how often", x.property(13), 1);
        x.carve(2);
        due.is("44 blunt", x.sharpen(), 3);
        due.is("44 time", x.property(12), 4 + 7 + 4);
        due.is("44 how often", x.property(13), 2);
        due.is("44 left", x.property(9), 10);
        due.is("44 can be undone", x.undoCount(), 4);
        x.undo();
        due.is("44 undone", x.property(9), 3);
    }

    private static void promise45SetChisel() {
        SlabCutter x = Due.loaded(DOCUMENT);
        x.carve(3);
        due.is("45 before", x.setChisel(999, 99), 1004);
        due.is("45 sharp", x.property(9), 999);
        due.is("45 strokes", x.property(10), 999);
        due.is("45 time to sharpen", x.property(11), 99);
        due.is("45 time stays", x.property(12), 21);
        due.is("45 how often stays", x.property(13), 1);
        due.is("45 carved stay", x.property(8), 3);
        due.is("45 before", x.setChisel(1, 0), 99999);
        due.is("45 can be undone", x.undoCount(), 4);
        due.is("45 before", new SlabCutter().setChisel(5, 5), 10010);
        due.failsArgument("45 strokes below", () -> x.setChisel(0, 0));
        due.failsArgument("45 strokes above", () -> x.setChisel(1000, 0));
        due.failsArgument("45 time below", () -> x.setChisel(1, -1));
        due.failsArgument("45 time above", () -> x.setChisel(1, 100));
        due.is("45 unchanged", x.property(10) * 100 + x.property(11), 100);
        due.is("45 no more to undo", x.undoCount(), 4);
    }
}
