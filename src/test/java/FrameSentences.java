import java.lang.reflect.InvocationTargetException;
import java.lang.reflect.Method;
import java.lang.reflect.Modifier;
import java.util.ArrayList;
import java.util.List;

/** What the document says ahead of its terms and behind its promises. */
final class FrameSentences extends SentenceGroup {
    private static final int CALLS = 512;
    // 60 bytes, so that it goes in by three calls and needs no cut.
    private static final String TEXT = "slab 4 3;flaw 3 0,0 2;gap 0;chisel 9 3;verse ab c;name 12;  ";
    private static final String WAITING = "slab 5 3;date xyz 7;";

    FrameSentences(Sentences doc) {
        super(doc);
    }

    @Override
    void tell() {
        doc.in("What it is");
        cutter();
        whatStands();
        whatChanges();
        calls();
        doc.in("Not promised");
        doc.leavesOpen("How the state is held inside the object is free, as are the speed of each call, "
                + "the text of toString and the behaviour of equals and hashCode.");
        doc.leavesOpen("Use of one object from several threads at once is not promised to be safe.");
        doc.leavesOpen("Nothing is promised beyond the answers and state changes described above, "
                + "and nothing about an object after its 512th call.");
    }

    private void cutter() {
        doc.says("A cutter of inscriptions:", () -> {
            SlabCutter one = Due.loaded("slab 4 2;verse ab;");
            SlabCutter other = Due.loaded("slab 5 2;name 1;");
            one.carve(1);
            one.keep(0);
            one.writeRow(0);
            Due.type(one, "xy");
            due.is("another cutter's slab", Due.slab(other), "..1..|.....");
            due.is("its carved letters", other.property(8), 0);
            due.is("its past", other.undoCount(), 1);
            due.failsState("its slot", () -> other.restore(0));
            due.failsArgument("its input", () -> Due.truncated(other, 1));
            due.is("the output of the one", Due.output(one, 4), "Ab..");
            due.is("the input of the one", one.addPart(SlabCutter.DATE), 1);
        });
        doc.says("slabs of cells with flaws,", () -> {
            due.slabOf("slab 4 2;", "....|....");
            due.slabOf("slab 4 2;flaw 0 0,1 0,2 0,3 0,0 1,1 1,2 1,3 1;", "####|####");
            due.slabOf("slab 24 2;flaw 23 1;", "........................|.......................#");
        });
    }

    private void whatStands() {
        doc.says("parts with words that are laid row by row around the flaws,", () -> {
            due.slabOf("slab 6 3;flaw 1 0,4 1;verse a bc d efg;", "a#bc.d|efg.#.|......");
            due.slabOf("slab 4 4;flaw 0 0,1 0,2 0,3 0;verse abcd;date 12;", "####|abcd|12..|....");
        });
        doc.says("names in the middle,", () -> {
            due.slabOf("slab 7 2;name abc;verse abc;", "..abc..|abc....");
            due.slabOf("slab 4 2;name abcd;", "abcd|....");
        });
        doc.says("letters with strokes that are carved one after the other,", () -> {
            SlabCutter x = Due.loaded("slab 4 2;chisel 99 9;verse ab;");
            due.is("strokes of a", x.carve(1), 1);
            due.slabOf("slab 4 2;verse ab;", "ab..|....");
            due.is("a alone is carved", Due.row(x, 0), "Ab..");
            due.is("strokes of b", x.carve(1), 3);
            due.is("both are carved", Due.row(x, 0), "AB..");
            due.is("and no more", x.carve(300), 0);
        });
        doc.says("a chisel that gets blunt,", () -> {
            SlabCutter x = Due.loaded("slab 4 2;chisel 4 7;verse aba;");
            x.carve(1);
            due.is("less sharp", x.property(9), 3);
            x.carve(1);
            due.is("blunt", x.property(9), 0);
            due.is("sharpened ahead of the next", x.carve(1), 8);
        });
        doc.says("carved letters that must not move any more,", () -> {
            SlabCutter x = Due.loaded("slab 4 2;verse ab c;");
            x.carve(1);
            due.failsState("a flaw at a carved letter", () -> Due.flaw(x, 0, 0, true));
            due.failsState("a flaw at its word", () -> Due.flaw(x, 1, 0, true));
            due.is("a flaw at the next word", Due.flaw(x, 3, 0, true), 0);
            due.is("which moves", Due.slab(x), "Ab.#|c...");
        });
        doc.says("what fits and what is in the way,", () -> {
            SlabCutter x = Due.loaded("slab 4 2;flaw 1 0,3 1;verse abc defg;");
            due.is("what fits", x.property(6), 1);
            due.is("what does not", x.firstMissing(), 1);
            due.is("what is in the way", x.worstFlaw(), 1);
            due.is("without all of it", x.laidWithout(), 2);
        });
    }

    private void whatChanges() {
        doc.says("what would be,", () -> {
            SlabCutter x = Due.loaded("slab 4 2;verse abc;verse def;");
            due.is("a flaw more", x.laidIf(1, 0), 1);
            due.is("a gap", x.laidWith(1), 1);
            due.is("as it stands", Due.slab(x), "abc.|def.");
            due.is("nothing to undo but the text", x.undoCount(), 1);
        });
        doc.says("and changes of all this.", () -> {
            SlabCutter x = Due.loaded("slab 4 3;chisel 9 9;verse abc;verse def;");
            x.setFlaw(0, 0, true);
            x.setGap(1);
            x.cutRows(1, false);
            x.setChisel(8, 8);
            due.is("slab", Due.slab(x), "#abc|....");
            due.is("words", x.property(6), 1);
            due.is("chisel", x.property(10) * 100 + x.property(11), 808);
            due.is("calls that can be undone", x.undoCount(), 5);
        });
    }

    private void calls() {
        doc.says("An object is used for at most 512 calls after it has been made;", () -> {
            SlabCutter x = new SlabCutter();
            for (int call = 1; call < CALLS; call++) {
                x.sharpen();
            }
            due.is("the last call behind 511 changes", x.property(13), CALLS - 1);
            SlabCutter y = new SlabCutter();
            for (int call = 1; call < CALLS; call++) {
                y.sharpen();
            }
            due.is("undo behind 511 changes", y.undo(), 5);
            int methods = 0;
            for (Method method : SlabCutter.class.getDeclaredMethods()) {
                if (Modifier.isPublic(method.getModifiers())) {
                    methods++;
                    lastCall(method, 0, false);
                    lastCall(method, 1, true);
                }
            }
            due.is("methods", methods, 51);
        });
        doc.leavesOpen("what later calls answer is free.");
    }

    /** A call must answer as the 512th what it answers as one of the first. */
    private void lastCall(Method method, int number, boolean choice) {
        List<Object> arguments = new ArrayList<>();
        for (Class<?> type : method.getParameterTypes()) {
            arguments.add(type == boolean.class ? (Object) choice : (Object) number);
        }
        SlabCutter young = new SlabCutter();
        SlabCutter old = new SlabCutter();
        prepare(young);
        for (int call = prepare(old) + 1; call < CALLS; call++) {
            ask(old, call);
        }
        due.is(method.getName() + arguments + " as the last call", answer(method, old, arguments),
                answer(method, young, arguments));
    }

    /** Answers how many calls it made. */
    private static int prepare(SlabCutter x) {
        Due.appendAll(x, TEXT);
        x.load();
        x.keep(0);
        x.carve(2);
        x.setFlaw(3, 2, true);
        x.writeRow(0);
        Due.appendAll(x, WAITING);
        return TEXT.length() / 20 + 5 + WAITING.length() / 20;
    }

    /** One call that changes nothing. */
    private static void ask(SlabCutter x, int turn) {
        switch (turn % 5) {
            case 0: x.worstFlaw(); break;
            case 1: x.bestPlace(turn % 2); break;
            case 2: x.laidIf(turn % 4, turn % 3); break;
            case 3: x.timeWith(turn); break;
            default: x.writeRow(0); break;
        }
    }

    private static String answer(Method method, SlabCutter of, List<Object> arguments) {
        try {
            return String.valueOf(method.invoke(of, arguments.toArray()));
        } catch (InvocationTargetException e) {
            return e.getCause().getClass().getName();
        } catch (IllegalAccessException e) {
            throw new AssertionError(e);
        }
    }
}
