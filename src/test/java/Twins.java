import java.util.function.Consumer;

/** Two objects made by the same calls: what a call on one of them leaves behind is what they differ in then. */
final class Twins {
    private static final String TEXT = "slab 4 3;flaw 3 0,0 2;gap 0;chisel 9 3;verse ab c;name 12;";
    private static final String WAITING = "slab 5 3;flaw 1 1;date xyz 77;";
    private static final int WORDS = 3;

    final SlabCutter one;
    final SlabCutter other;

    Twins(Consumer<SlabCutter> more) {
        one = made(more);
        other = made(more);
    }

    Twins() {
        this(x -> { });
    }

    /** Four calls can be undone, slot 0 is taken, slot 1 is empty, both buffers hold something, a text had an error. */
    private static SlabCutter made(Consumer<SlabCutter> more) {
        SlabCutter x = Due.loaded(TEXT);
        x.keep(0);
        x.sharpen();
        x.carve(2);
        x.setFlaw(3, 2, true);
        Due.load(x, "slab 4 1");
        x.writeRow(0);
        Due.type(x, WAITING);
        more.accept(x);
        return x;
    }

    /** All that is promised of them, the past and the slots at last, as looking at these changes the objects. */
    void same(Due due, String what) {
        due.is("looked at after " + what, look(one), look(other));
        due.is("room in the input after " + what, room(one), room(other));
        for (int i = 0; i <= 6 && other.undoCount() > 0; i++) {
            due.is("undo after " + what, answer(one::undo), answer(other::undo));
            due.is("undone after " + what, look(one), look(other));
        }
        for (int slot = 0; slot < 2; slot++) {
            int at = slot;
            due.is("slot after " + what, answer(() -> one.restore(at)), answer(() -> other.restore(at)));
            due.is("restored after " + what, look(one), look(other));
        }
        due.is("load of the input after " + what, answer(one::load), answer(other::load));
        due.is("loaded after " + what, look(one), look(other));
    }

    /** What can be seen without a change; not every cell and word, as an object has 512 calls. */
    static String look(SlabCutter x) {
        StringBuilder seen = new StringBuilder();
        for (int what = 0; what < 14; what++) {
            seen.append(x.property(what)).append(' ');
        }
        seen.append("|").append(x.errorCode()).append(' ').append(x.errorPosition()).append(' ').append(x.undoCount());
        seen.append("|");
        int rows = x.property(1);
        for (int row = 0; row < rows && row <= 2; row += 2) {
            for (int column = 0; column < 4; column++) {
                seen.append(x.cell(column, row)).append(' ');
            }
        }
        int words = Math.min(WORDS, x.property(5));
        for (int word = 0; word < words; word++) {
            seen.append("|").append(x.part(x.word(word, 0), 0)).append(' ').append(x.word(word, 3));
            seen.append(' ').append(x.word(word, 5));
        }
        seen.append("|").append(answer(() -> x.outputByte(0))).append(' ').append(answer(() -> x.outputByte(4)));
        return seen.toString();
    }

    private static String room(SlabCutter x) {
        String answer = answer(() -> x.append(0, 0, 0, 0, 0));
        if (answer.chars().allMatch(Character::isDigit)) {
            x.truncate(Integer.parseInt(answer) - 20);
        }
        return answer;
    }

    private static String answer(Due.Call call) {
        try {
            return String.valueOf(call.run());
        } catch (RuntimeException e) {
            return e.getClass().getSimpleName();
        }
    }
}
