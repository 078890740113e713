/** Promises 36 to 42: changes of the parts, the flaws, the gap and the slab, and the carved letters that must stay. */
public final class ChangeTest {
    private static final Due due = new Due("ChangeTest");

    public static void main(String[] args) {
        whatIsAskedDisturbsNoChange();
        promise36AddPart();
        promise36AddPartWrong();
        promise36AddPartLimits();
        promise37DropPart();
        promise37DropPartCarved();
        promise38MovePart();
        promise38MovePartCarved();
        promise39SetFlaw();
        promise39SetFlawLimits();
        promise39SetFlawCarved();
        promise40SetGap();
        promise41TurnSlab();
        promise42CutRows();
        promise42CutRowsCarved();
        due.end();
    }

    /** The same change on two slabs; ahead of it one is asked what would be, and refuses texts and changes. */
    private static void notDisturbed(String what, java.util.function.ToIntFunction<SlabCutter> change) {
        SlabCutter plain = Due.loaded("slab 8 6;flaw 7 3,0 5,3 1;gap 1;chisel 9 3;verse abc ab;name 5 5;date xy;");
        SlabCutter asked = Due.loaded("slab 8 6;flaw 7 3,0 5,3 1;gap 1;chisel 9 3;verse abc ab;name 5 5;date xy;");
        due.is("asked: an error", Due.load(asked, "slab 4 3;flaw 0 0;gap 3;verse a b;verse c;x"), SlabCutter.PARSE_ERROR);
        ask(asked);
        due.is("the answer of " + what, change.applyAsInt(asked), change.applyAsInt(plain));
        due.is("the slab behind " + what, Due.slab(asked), Due.slab(plain));
        for (int property = 0; property < 14; property++) {
            due.is("property " + property + " behind " + what, asked.property(property), plain.property(property));
        }
    }

    private static void ask(SlabCutter x) {
        Due.type(x, "ab cd ;");
        due.failsArgument("asked: no good part", () -> x.addPart(0));
        due.failsIndex("asked: no such part", () -> x.dropPart(3));
        x.laidWith(3);
        x.laidIf(0, 0);
        x.laidTurned();
        x.bestPlace(1);
        x.laidBut(0);
        x.laidWithout();
        // The last one leaves the most behind: another text.
        Due.load(x, "slab 4 3;flaw 0 0;gap 3;verse a b;verse c;x");
    }

    private static void whatIsAskedDisturbsNoChange() {
        notDisturbed("addPart", x -> Due.addPart(x, 1, "z"));
        notDisturbed("dropPart", x -> x.dropPart(0));
        notDisturbed("movePart", x -> x.movePart(0, 2));
        notDisturbed("setFlaw", x -> x.setFlaw(1, 1, true) ? 1 : 0);
        notDisturbed("setGap", x -> x.setGap(0));
        notDisturbed("turnSlab", x -> x.turnSlab());
        notDisturbed("cutRows", x -> x.cutRows(2, true));
        notDisturbed("carve", x -> x.carve(4));
        notDisturbed("sharpen", x -> x.sharpen());
        notDisturbed("setChisel", x -> x.setChisel(5, 5));
        notDisturbed("keep", x -> x.keep(0));
        notDisturbed("undo", x -> x.undo());
        notDisturbed("laidIf", x -> x.laidIf(0, 2));
        notDisturbed("worstFlaw", x -> x.worstFlaw());
        notDisturbed("laidWithout", x -> x.laidWithout());
        notDisturbed("laidWith", x -> x.laidWith(0));
        notDisturbed("laidTurned", x -> x.laidTurned());
        notDisturbed("laidBut", x -> x.laidBut(1));
        notDisturbed("bestPlace", x -> x.bestPlace(2));
    }

    private static void promise36AddPart() {
        SlabCutter x = new SlabCutter();
        due.is("36 first", Due.addPart(x, SlabCutter.NAME, "ab 12"), 0);
        due.is("36 second", Due.addPart(x, SlabCutter.DATE, "\n slab\n007 a1 "), 1);
        due.is("36 third", Due.addPart(x, SlabCutter.VERSE, "abcdefghij 1234567890"), 2);
        due.is("36 slab", Due.slab(x), "..ab.12...|slab.007.a|1.........|abcdefghij");
        due.is("36 kinds", x.part(0, 0) * 100 + x.part(1, 0) * 10 + x.part(2, 0), 12);
        due.is("36 words", x.part(1, 2), 4);
        due.is("36 missing", x.firstMissing(), 7);
        due.is("36 can be undone", x.undoCount(), 3);
        due.is("36 empties", x.append(0, 0, 0, 0, 0), 20);
        x.truncate(0);
        due.is("36 undone", x.undo(), 2);
        due.is("36 two parts", x.property(4), 2);
        x.carve(20);
        due.is("36 with carved letters", Due.addPart(x, SlabCutter.DATE, "x"), 2);
        due.is("36 they stay", x.property(8), 13);
        due.is("36 bytes of 12", Due.addPart(Due.loaded("slab 12 2;"), 2, "abcdefghijkl"), 0);
    }

    private static void wrong(SlabCutter x, int kind, String words) {
        Due.type(x, words);
        due.failsArgument("36 kind " + kind + " of " + words, () -> x.addPart(kind));
        due.is("36 empty then: " + words, x.append(0, 0, 0, 0, 0), 20);
        x.truncate(0);
    }

    private static void promise36AddPartWrong() {
        SlabCutter x = Due.loaded("slab 5 4;gap 1;verse ab;");
        wrong(x, -1, "a");
        wrong(x, 3, "a");
        wrong(x, Integer.MIN_VALUE, "a");
        wrong(x, Integer.MAX_VALUE, "a");
        wrong(x, 0, "");
        wrong(x, 1, " \n ");
        wrong(x, 2, "a;");
        wrong(x, 2, ";");
        wrong(x, 2, "a b, c");
        wrong(x, 2, "aB");
        wrong(x, 2, "a\t");
        wrong(x, 2, "abcdef");
        wrong(x, 2, "a b 123456");
        SlabCutter y = Due.loaded("slab 24 2;");
        wrong(y, 2, "abcdefghijklm");
        wrong(y, 2, "1234567890123");
        due.is("36 nothing changes", x.property(4) * 100 + x.property(5) * 10 + x.undoCount(), 111);
        due.is("36 nothing changes", Due.slab(x), "ab...|.....|.....|.....");
        due.is("36 nor the error", x.errorCode(), 0);
    }

    private static void promise36AddPartLimits() {
        SlabCutter x = Due.loaded("slab 4 12;" + "verse a;".repeat(9));
        due.is("36 tenth", Due.addPart(x, 0, "b"), 9);
        Due.type(x, "b");
        due.failsState("36 eleventh", () -> x.addPart(0));
        due.is("36 empty then", x.append(0, 0, 0, 0, 0), 20);
        x.truncate(0);
        wrong(x, 3, "b");
        wrong(x, 0, "");
        wrong(x, 0, "abcde");
        SlabCutter y = Due.loaded("slab 24 12;verse" + " a".repeat(58) + ";");
        Due.type(y, "b c d");
        due.failsState("36 61 words", () -> y.addPart(0));
        wrong(y, 0, "b c d ;");
        due.is("36 unchanged", y.property(5) * 10 + y.undoCount(), 581);
        due.is("36 60 words", Due.addPart(y, 0, "b c"), 1);
        due.is("36 the last word", y.letter(59, 0), 'c');
        due.is("36 its part", y.word(59, 0), 1);
        Due.type(y, "b");
        due.failsState("36 61 words", () -> y.addPart(0));
        SlabCutter z = Due.loaded("slab 4 2;");
        Due.type(z, "a ".repeat(250));
        due.failsState("36 250 words", () -> z.addPart(1));
        due.is("36 none", z.property(4) + z.property(5), 0);
        due.is("36 60 at once", Due.addPart(z, 1, "a ".repeat(60)), 0);
        due.is("36 60", z.property(5), 60);
    }

    private static void promise37DropPart() {
        SlabCutter x = Due.loaded("slab 4 4;gap 1;verse ab ab ab;date cd;name ef g;");
        due.is("37", x.dropPart(0), 3);
        due.is("37 slab", Due.slab(x), "cd..|....|ef.g|....");
        due.is("37 kinds", x.part(0, 0) * 10 + x.part(1, 0), 10);
        due.is("37 words", x.property(5), 3);
        due.is("37 last", x.dropPart(1), 1);
        due.is("37 the only one", x.dropPart(0), 0);
        due.is("37 no words", x.property(5), 0);
        due.is("37 can be undone", x.undoCount(), 4);
        due.failsIndex("37 none", () -> x.dropPart(0));
        x.undo();
        due.failsIndex("37 no part", () -> x.dropPart(1));
        due.failsIndex("37 below", () -> x.dropPart(-1));
        due.is("37 no more to undo", x.undoCount(), 3);
    }

    private static void promise37DropPartCarved() {
        SlabCutter x = Due.loaded("slab 4 5;gap 0;verse ab;date ab;date cd;verse ef;");
        x.carve(3);
        due.failsState("37 carved", () -> x.dropPart(1));
        due.failsIndex("37 first named first", () -> x.dropPart(4));
        due.is("37 unchanged", x.property(4) * 10 + x.undoCount(), 42);
        due.is("37 behind", x.dropPart(2), 3);
        due.failsState("37 ahead", () -> x.dropPart(0));
        x.undo();
        x.undo();
        x.carve(2);
        // The first words are the same then, at the same places: only the kind is another.
        due.is("37 same word", x.dropPart(0), 3);
        due.is("37 kind", x.part(0, 0), SlabCutter.DATE);
        due.is("37 carved", x.property(8), 2);
        due.is("37 slab", Due.slab(x), "AB..|cd..|ef..|....|....");
        x.carve(4);
        due.failsState("37 a word that is not there then", () -> x.dropPart(2));
        SlabCutter y = Due.loaded("slab 4 3;gap 0;verse ab;date ab;");
        y.carve(4);
        due.failsState("37 the other one is carved too", () -> y.dropPart(0));
        SlabCutter z = Due.loaded("slab 4 3;gap 0;verse ab;date aba;");
        z.carve(2);
        due.failsState("37 all letters of the word", () -> z.dropPart(0));
    }

    private static void promise38MovePart() {
        SlabCutter x = Due.loaded("slab 4 4;gap 0;verse a;date b c;name d;verse e;");
        due.is("38 behind", x.movePart(0, 2), 5);
        due.is("38 slab", Due.slab(x), "b.c.|.d..|a...|e...");
        due.is("38 ahead", x.movePart(3, 0), 5);
        due.is("38 slab", Due.slab(x), "e...|b.c.|.d..|a...");
        due.is("38 word", x.word(3, 0), 2);
        due.is("38 its own place", x.movePart(1, 1), 5);
        due.is("38 can be undone", x.undoCount(), 4);
        due.is("38 to the end", x.movePart(0, 3), 5);
        due.is("38 slab", Due.slab(x), "b.c.|.d..|a...|e...");
        due.is("38 neighbours", x.movePart(2, 1), 5);
        due.is("38 slab", Due.slab(x), "b.c.|a...|.d..|e...");
        due.failsIndex("38 no part", () -> x.movePart(4, 0));
        due.failsIndex("38 below", () -> x.movePart(-1, 0));
        due.failsIndex("38 no place", () -> x.movePart(0, 4));
        due.failsIndex("38 place below", () -> x.movePart(0, -1));
        due.is("38 unchanged", Due.slab(x), "b.c.|a...|.d..|e...");
        due.is("38 fewer words", Due.loaded("slab 4 3;flaw 3 0,3 1;gap 0;verse a;verse abcd;").movePart(1, 0), 1);
    }

    private static void promise38MovePartCarved() {
        SlabCutter x = Due.loaded("slab 4 4;gap 0;verse a;date b c;name d;verse e;");
        x.carve(2);
        due.failsState("38 carved", () -> x.movePart(0, 2));
        due.failsState("38 ahead of carved", () -> x.movePart(3, 0));
        due.failsState("38 to between", () -> x.movePart(2, 1));
        due.failsIndex("38 first named first", () -> x.movePart(0, 4));
        due.is("38 its own place", x.movePart(0, 0), 5);
        due.is("38 behind", x.movePart(3, 2), 5);
        due.is("38 slab", Due.slab(x), "A...|B.c.|e...|.d..");
        due.is("38 undo count", x.undoCount(), 4);
    }

    private static void promise39SetFlaw() {
        SlabCutter x = Due.loaded("slab 6 2;flaw 3 1;verse ab cd;");
        due.is("39 had none", x.setFlaw(1, 0, true) ? 1 : 0, 0);
        due.is("39 slab", Due.slab(x), ".#ab..|cd.#..");
        due.is("39 had one", x.setFlaw(1, 0, true) ? 1 : 0, 1);
        due.is("39 had one", x.setFlaw(1, 0, false) ? 1 : 0, 1);
        due.is("39 had none", x.setFlaw(5, 1, false) ? 1 : 0, 0);
        due.is("39 slab", Due.slab(x), "ab.cd.|...#..");
        due.is("39 flaws", x.property(2), 1);
        due.is("39 can be undone", x.undoCount(), 5);
        due.failsIndex("39 column", () -> flaw(x, 6, 0, true));
        due.failsIndex("39 column below", () -> flaw(x, -1, 0, true));
        due.failsIndex("39 row", () -> flaw(x, 0, 2, false));
        due.failsIndex("39 row below", () -> flaw(x, 0, -1, false));
        due.is("39 unchanged", x.undoCount(), 5);
    }

    private static int flaw(SlabCutter x, int column, int row, boolean flawed) {
        return x.setFlaw(column, row, flawed) ? 1 : 0;
    }

    private static void promise39SetFlawLimits() {
        SlabCutter x = Due.loaded("slab 24 12;");
        for (int i = 0; i < 40; i++) {
            due.is("39 flaw " + i, flaw(x, i % 24, i / 24, true), 0);
        }
        due.is("39 flaws", x.property(2), 40);
        due.failsState("39 41st", () -> flaw(x, 23, 11, true));
        due.failsIndex("39 first named first", () -> flaw(x, 24, 11, true));
        due.is("39 one of them again", flaw(x, 0, 0, true), 1);
        due.is("39 none away", flaw(x, 23, 11, false), 0);
        due.is("39 one away", flaw(x, 0, 0, false), 1);
        due.is("39 40th", flaw(x, 23, 11, true), 0);
        due.is("39 flaws", x.property(2), 40);
    }

    private static void promise39SetFlawCarved() {
        SlabCutter x = Due.loaded("slab 8 3;gap 0;verse abc de;verse f;");
        x.carve(1);
        due.failsState("39 on the carved letter", () -> flaw(x, 0, 0, true));
        due.failsState("39 on a letter of the same word", () -> flaw(x, 2, 0, true));
        due.is("39 beside it", flaw(x, 3, 0, true), 0);
        due.is("39 on another word", flaw(x, 5, 0, true), 0);
        due.is("39 slab", Due.slab(x), "Abc#.#de|f.......|........");
        due.is("39 its strokes", x.word(0, 4), 1 + 3 + 10);
        SlabCutter y = Due.loaded("slab 8 3;flaw 2 0;gap 0;name a abc;");
        y.carve(1);
        due.is("39 name", Due.slab(y), ".A#.abc.|........|........");
        // With it the words of the row could be moved no more.
        due.failsState("39 the name would move", () -> flaw(y, 6, 0, true));
        due.is("39 only a word without carved letters moves", flaw(y, 2, 0, false), 1);
        due.is("39 name", Due.slab(y), ".A.abc..|........|........");
        y.carve(1);
        due.failsState("39 the second word would move", () -> flaw(y, 2, 0, true));
    }

    private static void promise40SetGap() {
        SlabCutter x = Due.loaded("slab 4 5;gap 1;verse a;date b;date c;");
        due.is("40 before", x.setGap(0), 1);
        due.is("40 slab", Due.slab(x), "a...|b...|c...|....|....");
        due.is("40 before", x.setGap(3), 0);
        due.is("40 slab", Due.slab(x), "a...|....|....|....|b...");
        due.is("40 the same", x.setGap(3), 3);
        due.is("40 can be undone", x.undoCount(), 4);
        due.failsArgument("40 below", () -> x.setGap(-1));
        due.failsArgument("40 above", () -> x.setGap(4));
        x.carve(1);
        due.is("40 the carved part stays", x.setGap(2), 3);
        x.carve(1);
        due.failsState("40 a carved letter would move", () -> x.setGap(3));
        due.failsState("40 a carved letter would move", () -> x.setGap(1));
        due.failsArgument("40 first named first", () -> x.setGap(4));
        due.is("40 the same", x.setGap(2), 2);
        due.is("40 gap", x.property(3), 2);
    }

    private static void promise41TurnSlab() {
        SlabCutter x = Due.loaded("slab 5 3;flaw 0 1,0 2,3 2;gap 0;verse abcd e;verse abcde;");
        due.is("41 slab", Due.slab(x), "abcd.|#e...|#..#.");
        due.is("41", x.turnSlab(), 2);
        due.is("41 slab", Due.slab(x), ".#..#|abcd#|e....");
        due.is("41 back", x.turnSlab(), 2);
        due.is("41 slab", Due.slab(x), "abcd.|#e...|#..#.");
        due.is("41 can be undone", x.undoCount(), 3);
        x.carve(1);
        due.failsState("41 carved", x::turnSlab);
        due.is("41 unchanged", x.undoCount(), 4);
        SlabCutter y = Due.loaded("slab 4 2;verse a;");
        y.carve(1);
        due.failsState("41 carved, though nothing would move", y::turnSlab);
        due.is("41 without words", new SlabCutter().turnSlab(), 0);
    }

    private static void promise42CutRows() {
        SlabCutter x = Due.loaded("slab 4 6;flaw 0 0,1 2,3 3,0 5;gap 0;verse a;verse bcd;verse e;");
        due.is("42 slab", Due.slab(x), "#a..|bcd.|e#..|...#|....|#...");
        due.is("42 top", x.cutRows(2, true), 3);
        due.is("42 slab", Due.slab(x), "a#..|bcd#|e...|#...");
        due.is("42 flaws", x.property(2), 3);
        due.is("42 rows", x.property(1), 4);
        due.is("42 bottom", x.cutRows(2, false), 2);
        due.is("42 slab", Due.slab(x), "a#..|bcd#");
        due.is("42 flaws", x.property(2), 2);
        due.is("42 can be undone", x.undoCount(), 3);
        due.failsArgument("42 no more", () -> x.cutRows(1, false));
        due.failsArgument("42 none", () -> x.cutRows(0, false));
        x.undo();
        due.is("42 undone", Due.slab(x), "a#..|bcd#|e...|#...");
        due.failsArgument("42 one is left", () -> x.cutRows(3, false));
        due.failsArgument("42 below", () -> x.cutRows(-1, true));
        due.failsArgument("42 least", () -> x.cutRows(Integer.MIN_VALUE, true));
        due.failsArgument("42 greatest", () -> x.cutRows(Integer.MAX_VALUE, false));
        SlabCutter y = Due.loaded("slab 4 12;flaw 0 0,3 11;");
        due.is("42 ten", y.cutRows(10, true), 0);
        due.is("42 slab", Due.slab(y), "....|...#");
        SlabCutter z = Due.loaded("slab 4 4;flaw 0 2,1 3;gap 0;verse abcd ab;");
        due.is("42 a flaw below it", z.word(1, 4), 2 + 3);
        z.cutRows(2, false);
        due.is("42 gone with the rows", z.word(1, 4), 1 + 3);
        due.is("42 gone with the rows", z.touching() + z.dear(), 0);
        z.undo();
        z.cutRows(1, false);
        due.is("42 not cut off", z.word(1, 4), 2 + 3);
    }

    private static void promise42CutRowsCarved() {
        SlabCutter x = Due.loaded("slab 4 6;gap 0;verse a;verse b;name c;");
        x.carve(1);
        due.failsState("42 carved and at the top", () -> x.cutRows(1, true));
        due.failsArgument("42 first named first", () -> x.cutRows(5, true));
        due.is("42 carved and at the bottom", x.cutRows(4, false), 2);
        x.undo();
        x.carve(2);
        due.failsState("42 a carved letter would be gone", () -> x.cutRows(4, false));
        due.is("42 none would be", x.cutRows(3, false), 3);
        SlabCutter y = Due.loaded("slab 6 3;gap 0;name ab abcd abcde;");
        y.carve(1);
        // Without its last word the name is moved no more.
        due.failsState("42 the name would move", () -> y.cutRows(1, false));
        due.is("42 unchanged", Due.slab(y), "..Ab..|.abcd.|abcde.");
    }
}
