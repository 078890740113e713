import java.util.function.Consumer;

/** What the document says of undoing, of exceptions and of the slots: section 4 and promises 46 to 49. */
final class UndoSentences extends SentenceGroup {
    UndoSentences(Sentences doc) {
        super(doc);
    }

    @Override
    void tell() {
        doc.in("Terms");
        undoable();
        notUndoable();
        restored();
        kindsOfExceptions();
        severalExceptions();
        nothingChanges();
        addPartEmpties();
        beforeTheFirstLoad();
        whatWouldBe();
        keep();
        restore();
        undo();
        undoCount();
    }

    /** The call must be one more that can be undone, and undoing it must leave nothing of it behind. */
    private void undone(String what, Consumer<SlabCutter> call) {
        undone(what, x -> { }, call);
    }

    private void undone(String what, Consumer<SlabCutter> ahead, Consumer<SlabCutter> call) {
        Twins twins = new Twins(ahead);
        int count = twins.one.undoCount();
        String before = Twins.look(twins.one);
        call.accept(twins.one);
        due.is("undoCount after " + what, twins.one.undoCount(), count + 1);
        due.is("undo of " + what, twins.one.undo(), count);
        due.is("looked at after undo of " + what, Twins.look(twins.one), before);
        due.is("undoCount after undo of " + what, twins.one.undoCount(), twins.other.undoCount());
    }

    private static void another(SlabCutter x, String text) {
        x.truncate(0);
        Due.load(x, text);
    }

    private void undoable() {
        doc.says("4. UNDO. Each successful load(),", () -> {
            Twins twins = new Twins(x -> another(x, "slab 4 3;flaw 1 1;verse ab;"));
            String before = Twins.look(twins.one);
            due.is("an error", Due.load(twins.one, ""), SlabCutter.PARSE_ERROR);
            due.is("undoCount after an error", twins.one.undoCount(), 5);
            another(twins.one, "slab 9 9;flaw 1 1;gap 2;chisel 5 5;verse q;");
            due.is("undoCount", twins.one.undoCount(), 6);
            due.is("undo", twins.one.undo(), 5);
            due.is("looked at", Twins.look(twins.one), before);
            SlabCutter x = Due.loaded("slab 4 2;");
            due.is("the first one", x.undoCount() * 10 + x.undo(), 10);
            due.is("what was ahead of it", x.property(0) * 10 + x.property(1), 104);
        });
        doc.says("and each call of addPart(), dropPart(), movePart(), setFlaw(), setGap(), turnSlab(), cutRows(), carve(), "
                + "sharpen(), setChisel() and restore() that does not throw", () -> {
            undone("addPart", x -> x.truncate(0), x -> Due.addPart(x, 1, "qq"));
            undone("dropPart", x -> x.dropPart(1));
            undone("movePart", x -> another(x, "slab 4 3;flaw 1 1;name a;verse bc;"), x -> x.movePart(0, 1));
            undone("setFlaw", x -> x.setFlaw(3, 1, true));
            undone("setFlaw, none any more", x -> x.setFlaw(3, 2, false));
            undone("setGap", x -> x.setGap(3));
            undone("turnSlab", x -> another(x, "slab 4 3;flaw 1 1,0 0;name a;verse bc;"), SlabCutter::turnSlab);
            undone("cutRows", x -> x.cutRows(1, false));
            undone("cutRows at the top", x -> another(x, "slab 4 3;flaw 1 1,0 0;name a;"), x -> x.cutRows(1, true));
            undone("carve", x -> x.carve(2));
            undone("sharpen", SlabCutter::sharpen);
            undone("setChisel", x -> x.setChisel(5, 5));
            undone("restore", x -> x.restore(0));
        });
        doc.says("(also if nothing changes) can be undone;", () -> {
            undone("load of the same", x -> another(x, "slab 9 9;"), x -> another(x, "slab 9 9;"));
            undone("movePart to its place", x -> x.movePart(1, 1));
            undone("setFlaw as it is", x -> x.setFlaw(3, 0, true));
            undone("setFlaw as it is, none", x -> x.setFlaw(3, 1, false));
            undone("setGap as it is", x -> x.setGap(0));
            undone("turnSlab without flaws", x -> another(x, "slab 4 3;"), SlabCutter::turnSlab);
            undone("carve of nothing", x -> x.carve(300), x -> x.carve(1));
            undone("sharpen in no time", x -> x.setChisel(5, 0), SlabCutter::sharpen);
            undone("setChisel as it is", x -> x.setChisel(9, 3), x -> x.setChisel(9, 3));
            undone("restore of the same", x -> x.keep(1), x -> x.restore(1));
        });
    }

    private void notUndoable() {
        doc.says("the last 6 are kept.", () -> {
            SlabCutter x = new SlabCutter();
            for (int count = 1; count <= 6; count++) {
                x.sharpen();
                due.is("undoCount", x.undoCount(), count);
            }
            x.sharpen();
            due.is("a seventh", x.undoCount(), 6);
            for (int left = 5; left >= 0; left--) {
                due.is("undo", x.undo(), left);
                due.is("sharpened", x.property(13), left + 1);
            }
            due.failsState("no more", x::undo);
            due.is("the first one stays", x.property(13), 1);
        });
    }

    private void restored() {
        doc.says("undo() restores everything", () -> {
            SlabCutter x = Due.loaded("slab 6 5;flaw 5 4,1 0;gap 1;chisel 9 3;name abc;verse de 12;");
            x.carve(4);
            x.sharpen();
            String slab = Due.slab(x);
            int[] want = {6, 5, 2, 1, 2, 3, 3, 7, 4, 9, 9, 3};
            Due.load(x, "slab 4 12;flaw 3 3;gap 3;chisel 7 7;date xyz;verse a b;name c;name d;");
            x.carve(2);
            due.is("load", x.undo() * 10 + x.undo(), 43);
            due.is("slab", Due.slab(x), slab);
            for (int what = 0; what < want.length; what++) {
                due.is("property " + what, x.property(what), want[what]);
            }
            due.is("kinds", x.part(0, 0) * 10 + x.part(1, 0), 2);
            due.is("words", Due.part(x, 0) + "," + Due.part(x, 1), "abc,de 12");
            due.is("carved", x.word(0, 5) * 10 + x.word(1, 5), 31);
            x.undo();
            due.is("how often it was sharpened", x.property(13), 1);
        });
        doc.says("except the two buffers, the parse error and the two slots.", () -> {
            SlabCutter x = Due.loaded("slab 6 3;verse ab;");
            x.sharpen();
            x.keep(0);
            Due.load(x, "slab 6 3;gap");
            x.writePart(0);
            Due.type(x, "abc");
            x.undo();
            due.is("parse error", x.errorCode() * 100 + x.errorPosition(), 112);
            due.is("output", Due.output(x, 2), "ab");
            due.failsElement("no more output", () -> x.outputByte(2));
            due.is("input", x.append(0, 0, 0, 0, 0), 23);
            x.restore(0);
            due.is("the slot", x.property(13), 1);
            due.failsState("the other slot", () -> x.restore(1));
            Due.load(x, "?");
            x.keep(1);
            x.undo();
            due.is("the other slot", x.restore(1) + x.property(13), 1);
            due.is("undone", x.undo(), 1);
            x.truncate(0);
            Due.load(x, "slab 4 2;");
            x.undo();
            due.is("no parse error", x.errorCode() * 100 + x.errorPosition(), SlabCutter.NONE);
        });
    }

    private void kindsOfExceptions() {
        doc.says("EXCEPTIONS. A part, word, cell, row or slot that does not exist causes an IndexOutOfBoundsException;", () -> {
            SlabCutter x = Due.loaded("slab 4 3;verse ab;");
            due.failsIndex("part", () -> x.part(1, 0));
            due.failsIndex("part of laidBut", () -> x.laidBut(1));
            due.failsIndex("part of bestPlace", () -> x.bestPlace(-1));
            due.failsIndex("part of dropPart", () -> x.dropPart(1));
            due.failsIndex("place of movePart", () -> x.movePart(0, 1));
            due.failsIndex("part of writePart", () -> x.writePart(1));
            due.failsIndex("word", () -> x.word(1, 0));
            due.failsIndex("word of letter", () -> x.letter(1, 0));
            due.failsIndex("cell", () -> x.cell(4, 0));
            due.failsIndex("cell of wordAt", () -> x.wordAt(0, 3));
            due.failsIndex("cell of laidIf", () -> x.laidIf(-1, 0));
            due.failsIndex("cell of setFlaw", () -> Due.flaw(x, 0, -1, true));
            due.failsIndex("row of freeIn", () -> x.freeIn(3));
            due.failsIndex("row of longestRun", () -> x.longestRun(-1));
            due.failsIndex("row of writeRow", () -> x.writeRow(3));
            due.failsIndex("slot of keep", () -> x.keep(2));
            due.failsIndex("slot of restore", () -> x.restore(-1));
        });
        doc.says("another value that is out of range causes an IllegalArgumentException.", () -> {
            SlabCutter x = Due.loaded("slab 4 3;verse ab;");
            due.failsArgument("length", () -> Due.truncated(x, 1));
            due.failsArgument("property", () -> x.property(14));
            due.failsArgument("of a part", () -> x.part(0, 6));
            due.failsArgument("of a word", () -> x.word(0, 6));
            due.failsArgument("letters of timeFor", () -> x.timeFor(-1));
            due.failsArgument("time", () -> x.lettersIn(-1));
            due.failsArgument("sharp of timeWith", () -> x.timeWith(0));
            due.failsArgument("gap of laidWith", () -> x.laidWith(4));
            due.failsArgument("kind", () -> x.addPart(3));
            due.failsArgument("gap", () -> x.setGap(-1));
            due.failsArgument("rows", () -> x.cutRows(2, false));
            due.failsArgument("letters", () -> x.carve(301));
            due.failsArgument("sharp", () -> x.setChisel(1000, 0));
            due.failsArgument("time of setChisel", () -> x.setChisel(1, 100));
        });
    }

    private void severalExceptions() {
        doc.says("If several exceptions apply, the one that is named first in the method's throws clause is thrown.", () -> {
            SlabCutter x = Due.loaded("slab 4 6;gap 1;verse ab;date c;");
            x.carve(3);
            due.failsIndex("part", () -> x.part(2, 6));
            due.failsIndex("word", () -> x.word(-1, -1));
            due.failsIndex("dropPart", () -> x.dropPart(2));
            due.failsIndex("movePart", () -> x.movePart(0, 2));
            due.failsIndex("movePart", () -> x.movePart(2, 0));
            due.failsIndex("setFlaw", () -> Due.flaw(x, 4, 0, true));
            due.failsArgument("setGap", () -> x.setGap(4));
            due.failsArgument("cutRows", () -> x.cutRows(5, true));
            due.failsArgument("cutRows", () -> x.cutRows(0, true));
            due.failsIndex("restore", () -> x.restore(2));
            SlabCutter y = Due.loaded("slab 24 12;verse" + " a".repeat(51) + ";" + "date b;".repeat(9));
            for (int i = 0; i < 40; i++) {
                y.setFlaw(i % 20, 10 + i / 20, true);
            }
            due.failsIndex("41 flaws", () -> Due.flaw(y, 24, 0, true));
            String[] texts = {"a", "", "a;", "abcdefghijklm"};
            for (int i = 0; i < texts.length; i++) {
                int kind = i == 0 ? 3 : 0;
                Due.type(y, texts[i]);
                due.failsArgument("addPart of " + texts[i], () -> y.addPart(kind));
            }
            Due.type(y, "a");
            due.failsState("addPart", () -> y.addPart(0));
        });
    }

    /** The call must be refused, and whatever can be seen afterwards must be as if it had not been made. */
    private void refused(String what, Class<? extends RuntimeException> kind, CutterCall call) {
        refused(what, kind, x -> { }, call);
    }

    private void refused(String what, Class<? extends RuntimeException> kind, Consumer<SlabCutter> ahead, CutterCall call) {
        Twins twins = new Twins(ahead);
        due.fails(what, kind, () -> call.of(twins.one));
        twins.same(due, what);
    }

    private interface CutterCall {
        long of(SlabCutter cutter);
    }

    private void nothingChanges() {
        doc.says("A call that throws changes nothing,", () -> {
            refusedIndices();
            refusedArguments();
            refusedStates();
        });
    }

    private void refusedIndices() {
        Class<IndexOutOfBoundsException> index = IndexOutOfBoundsException.class;
        refused("part", index, x -> x.part(2, 0));
        refused("word", index, x -> x.word(3, 0));
        refused("letter", index, x -> x.letter(0, 2));
        refused("cell", index, x -> x.cell(4, 0));
        refused("wordAt", index, x -> x.wordAt(0, 3));
        refused("freeIn", index, x -> x.freeIn(3));
        refused("longestRun", index, x -> x.longestRun(-1));
        refused("laidIf", index, x -> x.laidIf(-1, 0));
        refused("laidBut", index, x -> x.laidBut(2));
        refused("bestPlace", index, x -> x.bestPlace(2));
        refused("dropPart", index, x -> x.dropPart(2));
        refused("movePart", index, x -> x.movePart(1, 2));
        refused("setFlaw", index, x -> Due.flaw(x, 0, 3, true));
        refused("keep", index, x -> x.keep(2));
        refused("restore", index, x -> x.restore(2));
        refused("writeRow", index, x -> x.writeRow(3));
        refused("writePart", index, x -> x.writePart(2));
        refused("outputByte", java.util.NoSuchElementException.class, x -> x.outputByte(4));
    }

    private void refusedArguments() {
        Class<IllegalArgumentException> argument = IllegalArgumentException.class;
        refused("truncate", argument, x -> Due.truncated(x, 1000));
        refused("truncate", argument, x -> Due.truncated(x, -1));
        refused("property", argument, x -> x.property(14));
        refused("part", argument, x -> x.part(0, 6));
        refused("word", argument, x -> x.word(0, 6));
        refused("timeFor", argument, x -> x.timeFor(-1));
        refused("lettersIn", argument, x -> x.lettersIn(-1));
        refused("timeWith", argument, x -> x.timeWith(0));
        refused("laidWith", argument, x -> x.laidWith(4));
        refused("setGap", argument, x -> x.setGap(4));
        refused("cutRows", argument, x -> x.cutRows(2, false));
        refused("carve", argument, x -> x.carve(301));
        refused("carve", argument, x -> x.carve(0));
        refused("setChisel", argument, x -> x.setChisel(0, 5));
        refused("setChisel", argument, x -> x.setChisel(5, 100));
    }

    private void refusedStates() {
        Class<IllegalStateException> state = IllegalStateException.class;
        refused("append", state, x -> Due.type(x, " ".repeat(452)), x -> x.append(0, 0, 0, 0, 0));
        refused("dropPart", state, x -> x.dropPart(0));
        refused("movePart", state, x -> x.movePart(1, 0));
        refused("movePart", state, x -> x.movePart(0, 1));
        refused("setFlaw", state, x -> Due.flaw(x, 1, 0, true));
        refused("setGap", state, x -> x.carve(2), x -> x.setGap(1));
        refused("turnSlab", state, SlabCutter::turnSlab);
        refused("cutRows", state, x -> x.cutRows(1, true));
        refused("cutRows", state, x -> x.carve(2), x -> x.cutRows(1, false));
        refused("restore", state, x -> x.restore(1));
        SlabCutter x = Due.loaded("slab 24 12;flaw 0 11;verse abc;");
        for (int flaw = 1; flaw < 40; flaw++) {
            x.setFlaw(flaw % 24, 8 + flaw / 24, true);
        }
        String before = Twins.look(x);
        due.failsState("a 41st flaw", () -> Due.flaw(x, 23, 11, true));
        due.is("after a 41st flaw", Twins.look(x), before);
        SlabCutter y = new SlabCutter();
        String first = Twins.look(y);
        due.failsState("undo", y::undo);
        due.is("after undo", Twins.look(y), first);
    }

    private void addPartEmpties() {
        doc.says("but for the input buffer of addPart(), which is empty then.", () -> {
            String[] texts = {"", " ", "a b;", "abcde", "a abcdefghijklm", "a", "a", "a ".repeat(58)};
            int[] kinds = {0, 0, 0, 0, 0, -1, 3, 2};
            for (int i = 0; i < texts.length; i++) {
                Twins twins = new Twins(x -> x.truncate(0));
                int kind = kinds[i];
                Due.type(twins.one, texts[i]);
                if (i < texts.length - 1) {
                    due.failsArgument("addPart of " + texts[i], () -> twins.one.addPart(kind));
                } else {
                    due.failsState("addPart of " + texts[i], () -> twins.one.addPart(kind));
                }
                twins.same(due, "addPart of " + texts[i]);
            }
            SlabCutter x = Due.loaded("slab 4 3;" + "verse a;".repeat(10));
            Due.type(x, "b");
            due.failsState("an 11th part", () -> x.addPart(0));
            due.failsArgument("empty then", () -> Due.truncated(x, 1));
            due.is("nothing else changes", x.property(4) * 10 + x.property(5), 110);
        });
    }

    private void beforeTheFirstLoad() {
        doc.says("Before the first successful load() all is as by the text \"slab 10 4;\".", () -> {
            SlabCutter x = new SlabCutter();
            SlabCutter y = Due.loaded("slab 10 4;");
            y.undo();
            due.is("looked at", Twins.look(x), Twins.look(y));
            due.is("slab", Due.slab(x), Due.slab(Due.loaded("slab 10 4;")));
            SlabCutter z = new SlabCutter();
            due.is("an error", Due.load(z, "slab 5 5;flaw 1 1;gap 2;verse a;?"), SlabCutter.PARSE_ERROR);
            Due.addPart(z, SlabCutter.NAME, "ab");
            z.carve(1);
            due.is("a part", Due.slab(z), "....Ab....|..........|..........|..........");
            due.is("the chisel", z.property(9) * 100 + z.property(11), 9910);
        });
    }

    private static final CutterCall[] CHANGES = {x -> x.addPart(1), x -> x.dropPart(1), x -> x.movePart(1, 2),
        x -> Due.flaw(x, 3, 1, true), x -> x.setGap(1), x -> x.cutRows(1, false), x -> x.carve(1), SlabCutter::sharpen,
        x -> x.setChisel(7, 7), x -> x.keep(1), x -> x.restore(0), SlabCutter::undo, SlabCutter::undoCount};

    /** One is asked everything and then refuses a text; the other refuses one with the same error, and is asked nothing. */
    private static Twins askedAndNot(CutterCall[] calls) {
        Twins twins = new Twins(x -> {
            x.truncate(0);
            Due.addPart(x, SlabCutter.VERSE, "d");
        });
        for (CutterCall call : calls) {
            call.of(twins.one);
        }
        Due.load(twins.one, "slab 9 2;gap 2;flaw 4 1;chisel 3 3;name a b c;?");
        Due.load(twins.other, " ".repeat(46) + "?");
        Due.type(twins.one, "ab");
        Due.type(twins.other, "ab");
        return twins;
    }

    private void whatWouldBe() {
        doc.says("Methods that ask what would be do not change anything;", () -> {
            CutterCall[] calls = {x -> x.timeFor(3), x -> x.lettersIn(9), SlabCutter::sharpenings, x -> x.timeWith(2),
                x -> x.laidIf(0, 0), x -> x.laidIf(3, 0), SlabCutter::worstFlaw, SlabCutter::laidWithout, x -> x.laidWith(3),
                SlabCutter::laidTurned, SlabCutter::leastRows, x -> x.laidBut(0), x -> x.laidBut(1), x -> x.bestPlace(0)};
            for (int i = 0; i < calls.length; i++) {
                Twins twins = new Twins();
                long answer = calls[i].of(twins.one);
                due.is("the same answer of " + i, calls[i].of(twins.one), answer);
                twins.same(due, "question " + i);
            }
            for (CutterCall call : calls) {
                Twins twins = askedAndNot(calls);
                due.is("the answer of a question behind others", call.of(twins.one), call.of(twins.other));
            }
            for (CutterCall change : CHANGES) {
                Twins twins = askedAndNot(calls);
                due.is("the answer of a change behind questions", change.of(twins.one), change.of(twins.other));
                due.is("looked at behind questions", Twins.look(twins.one), Twins.look(twins.other));
            }
        });
        doc.says("they ask for words and places alone, carved letters do not matter for them, if nothing else is said.", () -> {
            CutterCall[] calls = {x -> x.laidIf(3, 0), x -> x.laidIf(3, 1), SlabCutter::worstFlaw, SlabCutter::laidWithout,
                x -> x.laidWith(1), SlabCutter::laidTurned, SlabCutter::leastRows, x -> x.laidBut(0), x -> x.bestPlace(0),
                x -> x.bestPlace(2)};
            int[] want = {3, 2, 3, 3, 1, 3, SlabCutter.NONE, 2, 2, 0};
            SlabCutter x = Due.loaded("slab 4 3;flaw 3 0,3 1;verse abcd;date ab;name b;");
            for (int carved = 0; carved <= 4; carved += 4) {
                for (int i = 0; i < calls.length; i++) {
                    due.is("question " + i + " with " + x.property(8), calls[i].of(x), want[i]);
                }
                x.carve(4);
            }
        });
    }

    private void noSuchSlot(Due.Call... calls) {
        for (int i = 0; i < calls.length; i++) {
            due.failsIndex("call " + i, calls[i]);
        }
    }

    private void keep() {
        doc.in("Promise 46: keep");
        doc.says("Keeps everything that undo() restores,", () -> {
            SlabCutter x = Due.loaded("slab 6 5;flaw 5 4;gap 1;chisel 9 3;name abc;verse de 12;");
            x.carve(4);
            x.sharpen();
            String slab = Due.slab(x);
            x.keep(0);
            Due.load(x, "slab 4 12;flaw 3 3;gap 3;chisel 7 7;date xyz;verse a b;name c;name d;");
            x.carve(2);
            x.restore(0);
            int[] want = {6, 5, 1, 1, 2, 3, 3, 7, 4, 9, 9, 3, 17, 2};
            for (int what = 0; what < want.length; what++) {
                due.is("property " + what, x.property(what), want[what]);
            }
            due.is("slab", Due.slab(x), slab);
            due.is("kinds", x.part(0, 0) * 10 + x.part(1, 0), 2);
            due.is("words", Due.part(x, 0) + "," + Due.part(x, 1), "abc,de 12");
        });
        doc.says("but what can be undone,", () -> {
            SlabCutter x = new SlabCutter();
            x.sharpen();
            x.keep(0);
            due.is("keep itself", x.undoCount(), 1);
            x.sharpen();
            x.sharpen();
            x.restore(0);
            due.is("restore", x.undoCount(), 4);
            due.is("undo of it", x.undo() * 10 + x.property(13), 33);
        });
        doc.says("in a slot, in place of what was there.", () -> {
            SlabCutter x = new SlabCutter();
            x.keep(0);
            x.sharpen();
            x.keep(1);
            x.sharpen();
            x.keep(0);
            x.restore(1);
            due.is("the other one", x.property(13), 1);
            x.restore(0);
            due.is("in place", x.property(13), 2);
        });
        doc.says("- `slot`: 0 or 1 Returns the letters that are carved.", () -> {
            SlabCutter x = Due.loaded("slab 6 3;verse abc;");
            due.is("none", x.keep(0), 0);
            x.carve(2);
            due.is("two", x.keep(1), 2);
            x.carve(1);
            due.is("all", x.keep(0), 3);
        });
        doc.says("Throws `IndexOutOfBoundsException` if there is no such slot", () -> {
            SlabCutter x = new SlabCutter();
            noSuchSlot(() -> x.keep(2), () -> x.keep(-1), () -> x.keep(Integer.MIN_VALUE), () -> x.keep(Integer.MAX_VALUE));
        });
    }

    private void restore() {
        doc.in("Promise 47: restore");
        doc.says("Makes everything as it was kept in a slot,", () -> {
            SlabCutter x = Due.loaded("slab 6 3;flaw 5 2;gap 1;chisel 9 3;verse abc;date 5 5;");
            x.carve(3);
            x.keep(1);
            Due.load(x, "slab 4 2;name a;chisel 3 3;");
            x.carve(1);
            x.restore(1);
            due.is("slab", Due.slab(x), "ABC...|......|5.5..#");
            int[] want = {6, 3, 1, 1, 2, 3, 3, 5, 3, 0, 9, 3, 9, 0};
            for (int what = 0; what < want.length; what++) {
                due.is("property " + what, x.property(what), want[what]);
            }
        });
        doc.says("which keeps it.", () -> {
            SlabCutter x = Due.loaded("slab 6 3;verse abc;");
            x.keep(0);
            x.restore(0);
            x.dropPart(0);
            x.restore(0);
            due.is("again", Due.row(x, 0), "abc...");
            x.carve(3);
            x.restore(0);
            due.is("and again", Due.row(x, 0), "abc...");
            x.undo();
            x.undo();
            due.is("and behind undo", x.restore(0) + x.property(12), 0);
        });
        doc.says("- `slot`: 0 or 1 Returns the letters that are carved then.", () -> {
            SlabCutter x = Due.loaded("slab 6 3;verse abc;");
            x.keep(0);
            x.carve(2);
            x.keep(1);
            x.carve(1);
            due.is("slot 0", x.restore(0), 0);
            due.is("slot 1", x.restore(1), 2);
            due.is("carved", x.property(8), 2);
        });
        doc.says("Throws `IndexOutOfBoundsException` if there is no such slot", () -> {
            SlabCutter x = new SlabCutter();
            x.keep(0);
            x.keep(1);
            noSuchSlot(() -> x.restore(2), () -> x.restore(-1), () -> x.restore(Integer.MIN_VALUE),
                    () -> x.restore(Integer.MAX_VALUE));
        });
        doc.says("Throws `IllegalStateException` if nothing is kept there", () -> {
            SlabCutter x = new SlabCutter();
            due.failsState("slot 0", () -> x.restore(0));
            x.keep(0);
            due.failsState("slot 1", () -> x.restore(1));
            due.is("slot 0", x.restore(0), 0);
            SlabCutter y = new SlabCutter();
            y.keep(1);
            due.failsState("slot 0", () -> y.restore(0));
        });
    }

    private void undo() {
        doc.in("Promise 48: undo");
        doc.says("Undoes the latest call that can be undone (section 4).", () -> {
            SlabCutter x = Due.loaded("slab 6 3;gap 1;verse ab;");
            x.setGap(2);
            x.setFlaw(0, 0, true);
            x.carve(1);
            x.undo();
            due.is("carve", x.property(8) + x.property(12), 0);
            due.is("not the flaw", Due.row(x, 0), "#ab...");
            x.undo();
            due.is("the flaw", Due.row(x, 0), "ab....");
            due.is("not the gap", x.property(3), 2);
            x.undo();
            due.is("the gap", x.property(3), 1);
            x.setGap(3);
            x.undo();
            due.is("another one since", x.property(3), 1);
            x.undo();
            due.is("the load", x.property(0) * 100 + x.property(5), 1000);
        });
        doc.says("Returns how many calls can still be undone.", () -> {
            SlabCutter x = new SlabCutter();
            for (int i = 0; i < 8; i++) {
                x.sharpen();
            }
            for (int left = 5; left >= 0; left--) {
                due.is("left", x.undo(), left);
            }
        });
        doc.says("Throws `IllegalStateException` if there is nothing to undo", () -> {
            SlabCutter x = new SlabCutter();
            due.failsState("new", x::undo);
            x.sharpen();
            x.undo();
            due.failsState("undone already", x::undo);
            for (int i = 0; i < 7; i++) {
                x.sharpen();
            }
            for (int i = 0; i < 6; i++) {
                x.undo();
            }
            due.failsState("the seventh", x::undo);
            due.is("it stays", x.property(13), 1);
        });
    }

    private void undoCount() {
        doc.in("Promise 49: undoCount");
        doc.says("Returns how many calls can be undone.", () -> {
            SlabCutter x = new SlabCutter();
            due.is("none", x.undoCount(), 0);
            for (int count = 1; count <= 8; count++) {
                x.sharpen();
                due.is("6 at most", x.undoCount(), Math.min(count, 6));
            }
            x.keep(0);
            x.writeRow(0);
            x.append(0, 0, 0, 0, 0);
            x.load();
            x.laidIf(0, 0);
            due.failsArgument("a call that throws", () -> x.setGap(4));
            due.is("the same", x.undoCount(), 6);
            x.undo();
            due.is("fewer", x.undoCount(), 5);
            x.restore(0);
            due.is("more", x.undoCount(), 6);
        });
    }
}
