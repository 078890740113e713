import com.sun.management.ThreadMXBean;
import java.lang.management.ManagementFactory;

/** What a run makes: all calls live in one room, so that only constructors and first uses may take some of it. */
public final class RoomTest {
    private static final Due due = new Due("RoomTest");
    private static final ThreadMXBean THREADS = (ThreadMXBean) ManagementFactory.getThreadMXBean();
    private static final String FULL = "slab 24 12;flaw 3 0,5 1,7 2,9 3,0 4,1 5,2 6;gap 0;chisel 9 9;"
            + "name ab cd ef gh;date 12 34 56;verse a b c d e f g h i j k l m n o p;verse abcdefghijkl mnopqrstuvwx;"
            + "name aa bb cc dd ee;verse 1 2 3 4 5 6 7 8 9;date 1 2 3 4 5 6 7 8 9;name z;verse y;date x";

    public static void main(String[] args) {
        // The machine's own loading of the classes is not what is asked.
        measure(false);
        measure(true);
        due.end();
    }

    private static void measure(boolean counts) {
        long before = allocated();
        SlabCutter x = new SlabCutter();
        long made = allocated() - before;
        load(x);
        changes(x, 5);
        questions(x, 1);
        x.keep(0);
        x.keep(1);
        long ready = allocated();
        for (int i = 0; i < 4; i++) {
            load(x);
        }
        changes(x, 20);
        questions(x, 5);
        long more = allocated() - ready;
        if (counts) {
            System.out.println("RoomTest: new " + made + " bytes, at its fullest " + (ready - before) + ", further " + more);
            due.holds("a new object below 40,000 bytes", made < 40_000);
            due.holds("at its fullest below 120,000 bytes", ready - before < 120_000);
            due.holds("nothing more by further calls", more < 1_000);
        }
    }

    private static long allocated() {
        return THREADS.getThreadAllocatedBytes(Thread.currentThread().getId());
    }

    private static final int[] FOURS = fours();

    private static int[] fours() {
        int[] fours = new int[(FULL.length() + 20) / 20 * 5];
        for (int i = 0; i < fours.length * 4; i++) {
            int sign = i < FULL.length() ? FULL.charAt(i) : i == FULL.length() ? ';' : ' ';
            fours[i / 4] = fours[i / 4] << 8 | sign;
        }
        return fours;
    }

    private static void load(SlabCutter x) {
        for (int i = 0; i < FOURS.length; i += 5) {
            x.append(FOURS[i], FOURS[i + 1], FOURS[i + 2], FOURS[i + 3], FOURS[i + 4]);
        }
        if (x.load() == SlabCutter.PARSE_ERROR) {
            due.is("load of the full text", x.errorPosition(), -1);
        }
    }

    private static void changes(SlabCutter x, int times) {
        for (int i = 0; i < times; i++) {
            x.carve(3);
            x.sharpen();
            x.undo();
            x.undo();
            x.movePart(9, 8);
            x.setFlaw(23, 11, i % 2 == 0);
            x.setChisel(20, 3);
            x.turnSlab();
            x.turnSlab();
            x.setGap(i % 4);
            x.keep(i % 2);
        }
    }

    private static void questions(SlabCutter x, int times) {
        for (int i = 0; i < times; i++) {
            x.worstFlaw();
            x.bestPlace(4);
            x.laidTurned();
            x.laidBut(0);
            x.laidIf(1, 1);
            x.laidWithout();
            x.laidWith(3);
            x.leastRows();
            x.timeFor(300);
            x.timeWith(5);
            x.lettersIn(10000);
            x.sharpenings();
            x.touching();
            x.dear();
            x.writeRow(0);
            x.writePart(2);
            x.cell(4, 4);
            x.freeIn(3);
            x.longestRun(5);
            x.meanStrokes();
        }
    }
}
