import java.io.IOException;
import java.lang.reflect.Constructor;
import java.lang.reflect.Field;
import java.lang.reflect.Method;
import java.lang.reflect.Modifier;
import java.nio.charset.StandardCharsets;
import java.nio.file.Files;
import java.nio.file.Path;
import java.util.ArrayList;
import java.util.HashSet;
import java.util.List;
import java.util.Set;
import java.util.TreeSet;
import java.util.regex.Matcher;
import java.util.regex.Pattern;

/** The face of the class against ../shared/DOC.md, and what of ../shared/LANGUAGE.md can be seen from a text. */
public final class FaceTest {
    private static final Due due = new Due("FaceTest");

    public static void main(String[] args) throws IOException {
        String document = Files.readString(Path.of(args[0]), StandardCharsets.UTF_8);
        String source = Files.readString(Path.of(args[1]), StandardCharsets.UTF_8);
        methodsAreThoseOfTheDocument(document);
        constantsAreThoseOfTheDocument();
        nothingElseIsSeen();
        noInnerMethodBearsANameOfTheFace();
        theSourceKeepsToTheLanguage(source);
        due.end();
    }

    private static void methodsAreThoseOfTheDocument(String document) {
        String face = document.substring(document.indexOf("```java"), document.indexOf("## Terms"));
        Set<String> wanted = new TreeSet<>();
        Matcher line = Pattern.compile("public (int|void|boolean|float|double) (\\w+)\\((.*?)\\)(?: throws (.*))?;")
                .matcher(face);
        while (line.find()) {
            List<String> types = new ArrayList<>();
            for (String parameter : line.group(3).split(",")) {
                if (!parameter.isBlank()) {
                    types.add(parameter.trim().split(" ")[0]);
                }
            }
            String thrown = line.group(4) == null ? "" : line.group(4).replace(" ", "");
            wanted.add(line.group(1) + " " + line.group(2) + types + thrown);
        }
        Set<String> found = new TreeSet<>();
        for (Method method : SlabCutter.class.getDeclaredMethods()) {
            if (Modifier.isPublic(method.getModifiers())) {
                found.add(described(method));
            }
        }
        due.is("methods of the document", wanted.size(), 51);
        due.is("public methods", found.toString(), wanted.toString());
    }

    private static String described(Method method) {
        List<String> types = new ArrayList<>();
        for (Class<?> type : method.getParameterTypes()) {
            types.add(type.getSimpleName());
        }
        List<String> thrown = new ArrayList<>();
        for (Class<?> type : method.getExceptionTypes()) {
            thrown.add(type.getSimpleName());
        }
        return method.getReturnType().getSimpleName() + " " + method.getName() + types + String.join(",", thrown);
    }

    private static void constantsAreThoseOfTheDocument() {
        due.is("NONE", SlabCutter.NONE, -1);
        due.is("PARSE_ERROR", SlabCutter.PARSE_ERROR, -4);
        due.is("NAME", SlabCutter.NAME, 0);
        due.is("DATE", SlabCutter.DATE, 1);
        due.is("VERSE", SlabCutter.VERSE, 2);
    }

    private static void nothingElseIsSeen() {
        due.holds("final class", Modifier.isFinal(SlabCutter.class.getModifiers()));
        int constants = 0;
        for (Field field : SlabCutter.class.getDeclaredFields()) {
            boolean isPublic = Modifier.isPublic(field.getModifiers());
            constants += isPublic ? 1 : 0;
            due.holds(field + " public or private", isPublic || Modifier.isPrivate(field.getModifiers()));
            due.holds(field + " final if static",
                    !Modifier.isStatic(field.getModifiers()) || Modifier.isFinal(field.getModifiers()));
        }
        due.is("public constants", constants, 5);
        for (Method method : SlabCutter.class.getDeclaredMethods()) {
            int modifiers = method.getModifiers();
            due.holds(method + " public or private", Modifier.isPublic(modifiers) || Modifier.isPrivate(modifiers));
        }
        Constructor<?>[] constructors = SlabCutter.class.getDeclaredConstructors();
        due.is("constructors", constructors.length, 1);
        due.holds("public constructor", Modifier.isPublic(constructors[0].getModifiers()));
        due.holds("at most twelve classes", SlabCutter.class.getDeclaredClasses().length <= 11);
    }

    private static void noInnerMethodBearsANameOfTheFace() {
        Set<String> face = new HashSet<>();
        for (Method method : SlabCutter.class.getDeclaredMethods()) {
            if (Modifier.isPublic(method.getModifiers())) {
                due.holds(method.getName() + " but once", face.add(method.getName()));
            }
        }
        for (Method method : SlabCutter.class.getDeclaredMethods()) {
            due.holds(method.getName() + " not private too",
                    Modifier.isPublic(method.getModifiers()) || !face.contains(method.getName()));
        }
        for (Class<?> inner : SlabCutter.class.getDeclaredClasses()) {
            due.holds(inner + " private and static",
                    Modifier.isPrivate(inner.getModifiers()) && Modifier.isStatic(inner.getModifiers()));
            due.holds(inner + " with some twenty fields", inner.getDeclaredFields().length <= 20);
            for (Method method : inner.getDeclaredMethods()) {
                due.holds(method + " not of the face", !face.contains(method.getName()));
                due.holds(method + " with seven parameters", method.getParameterCount() <= 7);
            }
        }
    }

    private static void theSourceKeepsToTheLanguage(String source) {
        String code = source.replaceAll("(?s)/\\*.*?\\*/", "").replaceAll("//.*", "");
        String[] ruledOut = {"\\bcatch\\b", "\\bfinally\\b", "\\bassert\\b", "\\bsynchronized\\b", "->", "::",
            "\\bpackage\\b", "\\bSystem\\.(?!arraycopy)", "\\bMath\\.\\w+Exact\\b", "\\bThread\\b", "\\bRandom\\b",
            "\\bString\\.format\\b", "\"\\s*\\+", "\\+\\s*\"", "@\\w+"};
        for (String pattern : ruledOut) {
            due.holds("no " + pattern + " in the source", !Pattern.compile(pattern).matcher(code).find());
        }
        Matcher imports = Pattern.compile("import ([\\w.]+);").matcher(code);
        while (imports.find()) {
            due.is("import", imports.group(1), "java.util.NoSuchElementException");
        }
        for (int at = 0; at < source.length(); at++) {
            char sign = source.charAt(at);
            due.holds("sign " + (int) sign + " at " + at, sign == '\n' || sign >= 32 && sign <= 126);
        }
    }
}
