import java.util.function.Consumer;

/** Promises 46 to 49: slots and undo. */
public final class UndoTest {
    private static final Due due = new Due("UndoTest");

    public static void main(String[] args) {
        promise46Keep();
        promise47Restore();
        promise48Undo();
        promise48UndoWhatIsNotRestored();
        promise48And49EachCall();
        promise49UndoCount();
        due.end();
    }

    private static void promise46Keep() {
        SlabCutter x = Due.loaded("slab 6 3;flaw 5 2;gap 1;chisel 9 3;verse abc;");
        x.carve(2);
        due.is("46", x.keep(0), 2);
        due.is("46 is none to undo", x.undoCount(), 2);
        x.carve(1);
        due.is("46 other slot", x.keep(1), 3);
        due.is("46 slot 0", x.restore(0), 2);
        due.is("46 slot 1", x.restore(1), 3);
        due.is("46 in place of what was there", x.keep(0), 3);
        due.is("46 slot 0", x.restore(0), 3);
        due.failsIndex("46 below", () -> x.keep(-1));
        due.failsIndex("46 above", () -> x.keep(2));
        due.failsIndex("46 least", () -> x.keep(Integer.MIN_VALUE));
        due.failsIndex("46 greatest", () -> x.keep(Integer.MAX_VALUE));
        due.is("46 new", new SlabCutter().keep(1), 0);
    }

    private static void promise47Restore() {
        SlabCutter x = Due.loaded("slab 6 3;flaw 5 2;gap 1;chisel 9 3;verse abc;date 5 5;");
        x.carve(3);
        x.sharpen();
        x.writePart(0);
        x.keep(1);
        due.failsState("47 nothing kept", () -> x.restore(0));
        due.failsIndex("47 below", () -> x.restore(-1));
        due.failsIndex("47 above", () -> x.restore(2));
        Due.load(x, "slab 4 2;name a;chisel 3 3;");
        due.is("47 another slab", Due.slab(x), ".a..|....");
        x.writePart(0);
        Due.type(x, "ab");
        due.is("47", x.restore(1), 3);
        due.is("47 slab", Due.slab(x), "ABC...|......|5.5..#");
        int[] properties = {6, 3, 1, 1, 2, 3, 3, 5, 3, 9, 9, 3, 12, 1};
        for (int what = 0; what < properties.length; what++) {
            due.is("47 property " + what, x.property(what), properties[what]);
        }
        due.is("47 input buffer stays", x.append(0, 0, 0, 0, 0), 22);
        due.is("47 can be undone", x.undoCount(), 5);
        x.dropPart(1);
        due.is("47 the slot keeps it", x.restore(1), 3);
        due.is("47 parts", x.property(4), 2);
        x.undo();
        x.undo();
        due.is("47 undone", x.undo(), 3);
        due.is("47 undone", Due.slab(x), ".a..|....");
        due.is("47 carved letters need not stay", x.carve(1) * 10 + x.restore(1), 13);
    }

    private static void promise48Undo() {
        SlabCutter x = new SlabCutter();
        due.failsState("48 nothing", x::undo);
        Due.load(x, "slab 6 3;gap 1;verse ab;");
        x.setGap(2);
        x.setFlaw(0, 0, true);
        x.carve(1);
        due.is("48", x.undo(), 3);
        due.is("48 not carved", x.property(8) + x.property(12), 0);
        due.is("48 sharp", x.property(9), 100);
        due.is("48", x.undo(), 2);
        due.is("48 no flaw", Due.slab(x), "ab....|......|......");
        due.is("48", x.undo(), 1);
        due.is("48 gap", x.property(3), 1);
        due.is("48", x.undo(), 0);
        due.is("48 the first slab", x.property(0) * 100 + x.property(1) * 10 + x.property(4), 1040);
        due.failsState("48 nothing more", x::undo);
        for (int sharp = 1; sharp <= 9; sharp++) {
            x.setChisel(sharp, 0);
        }
        for (int left = 5; left >= 0; left--) {
            due.is("48 of the last six", x.undo(), left);
            due.is("48 as it was", x.property(10), left + 3);
        }
        due.failsState("48 no more than six", x::undo);
        due.is("48 unchanged", x.property(10), 3);
        x.setChisel(50, 5);
        due.is("48 again", x.undo(), 0);
        due.is("48 as it was", x.property(10), 3);
    }

    private static void promise48UndoWhatIsNotRestored() {
        SlabCutter x = Due.loaded("slab 6 3;verse ab;");
        x.sharpen();
        x.keep(0);
        due.is("48 an error", Due.load(x, "slab 6 3;gap"), SlabCutter.PARSE_ERROR);
        x.writePart(0);
        Due.type(x, "abc");
        x.undo();
        due.is("48 parse error", x.errorCode() * 100 + x.errorPosition(), 112);
        due.is("48 output", Due.output(x, 2), "ab");
        due.is("48 input", x.append(0, 0, 0, 0, 0), 23);
        x.restore(0);
        due.is("48 slot", x.property(13), 1);
        x.undo();
        x.undo();
        due.is("48 load undone", x.property(0), 10);
        x.truncate(0);
        due.is("48 parse error", x.errorCode(), 1);
    }

    /** Makes the call on an object of its own; it must be one more to undo, and undoing it must bring everything back. */
    private static void counted(String what, Consumer<SlabCutter> call) {
        SlabCutter x = Due.loaded("slab 6 5;flaw 5 2;gap 1;chisel 9 3;verse abc;date 5 5;");
        x.keep(0);
        x.turnSlab();
        counted(what, x, call);
    }

    private static void counted(String what, SlabCutter x, Consumer<SlabCutter> call) {
        String before = Due.slab(x) + states(x);
        int count = x.undoCount();
        call.accept(x);
        due.is("49 counts " + what, x.undoCount(), count + 1);
        due.is("48 undoes " + what, x.undo(), count);
        due.is("48 all back after " + what, Due.slab(x) + states(x), before);
    }

    private static String states(SlabCutter x) {
        StringBuilder text = new StringBuilder();
        for (int what = 0; what < 14; what++) {
            text.append(' ').append(x.property(what));
        }
        for (int part = 0; part < x.property(4); part++) {
            text.append(' ').append(x.part(part, 0)).append(Due.part(x, part));
        }
        return text.toString();
    }

    private static void promise48And49EachCall() {
        counted("load", x -> Due.load(x, "slab 4 2;name q;"));
        counted("addPart", x -> Due.addPart(x, SlabCutter.NAME, "xyz"));
        counted("dropPart", x -> x.dropPart(0));
        counted("movePart", x -> x.movePart(0, 1));
        counted("movePart to its place", x -> x.movePart(1, 1));
        counted("setFlaw", x -> x.setFlaw(0, 0, true));
        counted("setFlaw as it is", x -> x.setFlaw(0, 0, false));
        counted("setGap", x -> x.setGap(0));
        counted("setGap as it is", x -> x.setGap(1));
        counted("turnSlab", SlabCutter::turnSlab);
        counted("cutRows", x -> x.cutRows(1, true));
        counted("cutRows", x -> x.cutRows(3, false));
        counted("carve", x -> x.carve(4));
        counted("sharpen", SlabCutter::sharpen);
        counted("setChisel", x -> x.setChisel(8, 8));
        counted("setChisel as it is", x -> x.setChisel(9, 3));
        counted("restore", x -> x.restore(0));
        SlabCutter carved = Due.loaded("slab 6 5;verse abc;date 5 5;");
        carved.carve(300);
        counted("carve of nothing", carved, x -> x.carve(1));
    }

    private static void promise49UndoCount() {
        SlabCutter x = new SlabCutter();
        for (int count = 1; count <= 9; count++) {
            x.sharpen();
            due.is("49", x.undoCount(), Math.min(count, 6));
        }
        x.keep(0);
        x.writeRow(0);
        x.append(0, 0, 0, 0, 0);
        x.truncate(0);
        x.load();
        x.laidIf(0, 0);
        x.worstFlaw();
        due.failsArgument("49 a call that throws", () -> x.setGap(4));
        due.is("49 the same", x.undoCount(), 6);
        x.undo();
        due.is("49 fewer", x.undoCount(), 5);
        x.laidTurned();
        due.is("49 the same", x.undoCount(), 5);
        x.restore(0);
        due.is("49 more", x.undoCount(), 6);
    }
}
