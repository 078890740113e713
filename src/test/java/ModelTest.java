import java.lang.reflect.InvocationTargetException;
import java.lang.reflect.Method;
import java.lang.reflect.Modifier;
import java.util.ArrayList;
import java.util.Arrays;
import java.util.Comparator;
import java.util.List;
import java.util.Random;

/** Long runs of calls, always the same ones, on the class and on the model of the document. */
public final class ModelTest {
    private static final Due due = new Due("ModelTest");
    private static final int RUNS = 1500;
    private static final int CALLS = 512;
    // What a step and the look in the end may take.
    private static final int LAST_CALLS = 100;

    private final Random random;
    private final SlabCutter cutter = new SlabCutter();
    private final Model model = new Model();
    private final List<String> told = new ArrayList<>();
    private final List<Method> faces = new ArrayList<>();
    private final List<Method> models = new ArrayList<>();
    private int calls = 0;
    private boolean same = true;

    private ModelTest(long seed) throws ReflectiveOperationException {
        random = new Random(seed);
        for (Method method : SlabCutter.class.getDeclaredMethods()) {
            if (Modifier.isPublic(method.getModifiers())) {
                faces.add(method);
            }
        }
        faces.sort(Comparator.comparing(Method::getName));
        for (Method method : faces) {
            models.add(Model.class.getMethod(method.getName(), method.getParameterTypes()));
        }
    }

    public static void main(String[] args) throws ReflectiveOperationException {
        for (int seed = 1; seed <= RUNS && due.failures() < 3; seed++) {
            ModelTest run = new ModelTest(seed);
            run.run();
            due.holds("run of the seed " + seed + ": " + run.told, run.same);
        }
        due.end();
    }

    private void run() throws ReflectiveOperationException {
        if (random.nextInt(8) > 0) {
            text(goodText());
            call("load");
        }
        while (same && calls < CALLS - LAST_CALLS) {
            step();
        }
        view();
        due.holds("at most " + CALLS + " calls", calls <= CALLS);
    }

    private void step() throws ReflectiveOperationException {
        int choice = random.nextInt(100);
        if (choice < 6) {
            text(random.nextInt(3) == 0 ? spoiled(goodText()) : goodText());
            call("load");
        } else if (choice < 14) {
            text(random.nextInt(5) == 0 ? spoiled(words()) : words());
            call("addPart", random.nextInt(12) == 0 ? wild() : random.nextInt(3));
        } else if (choice < 46) {
            change();
        } else if (choice < 48) {
            text(spoiled(words()));
        } else {
            Method method = faces.get(random.nextInt(faces.size()));
            if (!List.of("load", "append", "truncate", "addPart").contains(method.getName())) {
                call(method.getName(), arguments(method));
            }
        }
    }

    private void change() throws ReflectiveOperationException {
        String[] names = {"dropPart", "movePart", "setFlaw", "setFlaw", "setFlaw", "setGap", "turnSlab", "cutRows",
            "carve", "carve", "sharpen", "setChisel", "keep", "restore", "undo"};
        String name = names[random.nextInt(names.length)];
        for (Method method : faces) {
            if (method.getName().equals(name)) {
                call(name, arguments(method));
            }
        }
        if (random.nextInt(4) == 0) {
            call("writeRow", random.nextInt(model.property(1)));
            for (int i = random.nextInt(6); i < model.property(0) && calls < CALLS - LAST_CALLS; i += 5) {
                call("outputByte", i);
            }
        }
    }

    /** Looks at every word in the end. */
    private void view() throws ReflectiveOperationException {
        for (int what = 0; what < 14; what++) {
            call("property", what);
        }
        for (int i = 0; i < 20 && model.property(5) > 0; i++) {
            call("word", random.nextInt(model.property(5)), random.nextInt(6));
        }
    }

    private Object[] arguments(Method method) {
        Class<?>[] types = method.getParameterTypes();
        Object[] values = new Object[types.length];
        for (int i = 0; i < types.length; i++) {
            values[i] = types[i] == boolean.class ? (Object) random.nextBoolean() : (Object) number(method.getName(), i);
        }
        return values;
    }

    private int number(String name, int parameter) {
        if (random.nextInt(25) == 0) {
            return wild();
        }
        switch (name) {
            case "cell": case "wordAt": case "laidIf": case "setFlaw":
                return random.nextInt(model.property(parameter) + (random.nextInt(10) == 0 ? 1 : 0));
            case "freeIn": case "longestRun": case "writeRow":
                return random.nextInt(model.property(1));
            case "part":
                return parameter == 0 ? random.nextInt(model.property(4) + 1) : random.nextInt(6);
            case "dropPart": case "movePart": case "laidBut": case "bestPlace": case "writePart":
                return random.nextInt(model.property(4) + (random.nextInt(4) == 0 ? 1 : 0) + (model.property(4) == 0 ? 1 : 0));
            case "word":
                return parameter == 0 ? random.nextInt(model.property(5) + 1) : random.nextInt(6);
            case "letter":
                return parameter == 0 ? random.nextInt(model.property(5) + 1) : random.nextInt(6);
            case "property":
                return random.nextInt(14);
            case "timeFor":
                return random.nextInt(40);
            case "lettersIn":
                return random.nextInt(200);
            case "timeWith":
                return 1 + random.nextInt(random.nextBoolean() ? 12 : 120);
            case "laidWith": case "setGap":
                return random.nextInt(4);
            case "cutRows":
                return 1 + random.nextInt(3);
            case "carve":
                return 1 + random.nextInt(random.nextInt(10) == 0 ? 300 : 6);
            case "setChisel":
                return parameter == 0 ? 1 + random.nextInt(random.nextBoolean() ? 14 : 999) : random.nextInt(30);
            case "keep": case "restore":
                return random.nextInt(2);
            default:
                return random.nextInt(30);
        }
    }

    private int wild() {
        int[] values = {-1, -2, 0, 1, 2, 3, 4, 5, 6, 10, 12, 13, 14, 24, 25, 60, 61, 99, 100, 300, 301, 500, 501, 999,
            1000, Integer.MAX_VALUE, Integer.MIN_VALUE, Integer.MAX_VALUE - 1, Integer.MIN_VALUE + 1};
        return values[random.nextInt(values.length)];
    }

    private String word() {
        int length = 1 + random.nextInt(random.nextInt(4) == 0 ? 12 : 4);
        boolean digits = random.nextInt(4) == 0;
        StringBuilder word = new StringBuilder();
        for (int i = 0; i < length; i++) {
            word.append((char) (digits ? '0' + random.nextInt(10) : 'a' + random.nextInt(random.nextBoolean() ? 3 : 26)));
        }
        String[] statements = {"slab", "flaw", "gap", "chisel", "name", "date", "verse"};
        return random.nextInt(30) == 0 ? statements[random.nextInt(7)] : word.toString();
    }

    private String words() {
        StringBuilder text = new StringBuilder();
        int count = 1 + random.nextInt(random.nextInt(8) == 0 ? 40 : 6);
        for (int i = 0; i < count && text.length() < 150; i++) {
            text.append(i == 0 ? "" : random.nextInt(9) == 0 ? "\n " : " ").append(word());
        }
        return text.toString();
    }

    private String goodText() {
        int columns = random.nextInt(3) == 0 ? 4 + random.nextInt(4) : 4 + random.nextInt(21);
        int rows = 2 + random.nextInt(11);
        List<String> rest = new ArrayList<>();
        for (int i = random.nextInt(3); i > 0; i--) {
            rest.add(flaws(columns, rows));
        }
        if (random.nextBoolean()) {
            rest.add("gap " + random.nextInt(4));
        }
        if (random.nextInt(3) > 0) {
            rest.add("chisel " + (1 + random.nextInt(random.nextBoolean() ? 15 : 999)) + " " + random.nextInt(100));
        }
        for (int i = random.nextInt(random.nextInt(5) == 0 ? 11 : 5); i > 0; i--) {
            String[] kinds = {"name ", "name ", "date ", "verse "};
            rest.add(kinds[random.nextInt(4)] + words());
        }
        java.util.Collections.shuffle(rest, random);
        StringBuilder text = new StringBuilder("slab " + columns + " " + rows + ";");
        for (String statement : rest) {
            if (text.length() + statement.length() < 480) {
                text.append(random.nextInt(6) == 0 ? "\n" : "").append(statement).append(";");
            }
        }
        return text.toString();
    }

    private String flaws(int columns, int rows) {
        StringBuilder text = new StringBuilder("flaw");
        int count = 1 + random.nextInt(random.nextInt(6) == 0 ? 45 : 12);
        for (int i = 0; i < count; i++) {
            text.append(i == 0 ? " " : ",").append(random.nextInt(columns)).append(' ').append(random.nextInt(rows));
        }
        return text.toString();
    }

    private String spoiled(String text) {
        StringBuilder spoiled = new StringBuilder(text);
        String signs = " ;,\n0159az#\u00ff\tA";
        for (int i = 1 + random.nextInt(2); i > 0 && spoiled.length() > 0; i--) {
            int at = random.nextInt(spoiled.length());
            switch (random.nextInt(4)) {
                case 0: spoiled.deleteCharAt(at); break;
                case 1: spoiled.insert(at, signs.charAt(random.nextInt(signs.length()))); break;
                case 2: spoiled.setCharAt(at, signs.charAt(random.nextInt(signs.length()))); break;
                default: spoiled.setLength(random.nextInt(3) == 0 ? at : spoiled.length()); break;
            }
        }
        return spoiled.toString();
    }

    /** Puts a text into the buffer, or as much of it as there is room for. */
    private void text(String text) throws ReflectiveOperationException {
        told.add("\"" + text + "\"");
        int before = model.append(0, 0, 0, 0, 0);
        model.truncate(before - 20);
        cutter.append(0, 0, 0, 0, 0);
        cutter.truncate(before - 20);
        calls += 2;
        if (before - 20 > 0 && random.nextInt(3) > 0) {
            call("truncate", 0);
            before = 20;
        }
        int room = 500 - (before - 20);
        String fitting = text.substring(0, Math.min(text.length(), room / 20 * 20));
        for (int at = 0; at < fitting.length(); at += 20) {
            Object[] fours = {0, 0, 0, 0, 0};
            for (int i = 0; i < 20; i++) {
                int sign = at + i < fitting.length() ? fitting.charAt(at + i) : ' ';
                fours[i / 4] = (int) fours[i / 4] << 8 | sign;
            }
            call("append", fours);
        }
        call("truncate", before - 20 + fitting.length());
        if (random.nextInt(30) == 0) {
            call("truncate", wild());
        }
        if (random.nextInt(30) == 0 && fitting.length() > 300) {
            call("append", 0x20202020, 0x20202020, 0x20202020, 0x20202020, 0x20202020);
            call("load");
        }
        if (before - 20 + fitting.length() > 480) {
            call("load");
        }
    }

    private void call(String name, Object... arguments) throws ReflectiveOperationException {
        if (!same) {
            return;
        }
        calls++;
        for (int i = 0; i < faces.size(); i++) {
            if (faces.get(i).getName().equals(name)) {
                String want = answer(models.get(i), model, arguments);
                String got = answer(faces.get(i), cutter, arguments);
                told.add(name + Arrays.toString(arguments) + "=" + got);
                if (!got.equals(want)) {
                    told.add("due is " + want);
                    same = false;
                }
            }
        }
    }

    private static String answer(Method method, Object of, Object[] arguments) throws ReflectiveOperationException {
        try {
            return String.valueOf(method.invoke(of, arguments));
        } catch (InvocationTargetException e) {
            return e.getCause().getClass().getName();
        }
    }
}
