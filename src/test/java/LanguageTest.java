import java.io.IOException;
import java.lang.reflect.Array;
import java.lang.reflect.Constructor;
import java.lang.reflect.Field;
import java.lang.reflect.Method;
import java.lang.reflect.Modifier;
import java.nio.file.Files;
import java.nio.file.Path;
import java.util.Arrays;
import java.util.Collections;
import java.util.IdentityHashMap;
import java.util.Map;
import java.util.Set;
import java.util.TreeMap;
import java.util.TreeSet;
import java.util.regex.Matcher;
import java.util.regex.Pattern;

/** The face of the document, and those rules of LANGUAGE.md that can be looked up from outside. */
public final class LanguageTest {
    private static final Check CHECK = new Check("LanguageTest");
    private static final String FACE = "back(int) court(int,boolean,boolean,int,int) draw(int,int,int) drop(int,int) "
        + "end(int) enter(int,int) fitted(int,int) games(int,int,int) gap(int,int) held(int,int) land(int,int) "
        + "lay(int,int) lucky(int,int,int) meeting(int,int,int) met(int,int,int) of(int,int) over(int,int) "
        + "place(int,int) point(int,int) rain(boolean) retire(int,int) rule(int,int) score(int,int) seeds(int,int) "
        + "side(int,int) slot(int,int) stands(int) time(int,int,int) undo(int) walk(int,int) why(int,int) winner(int) "
        + "worth(int,int)";
    private static final String[] WORDS = {"throw", "throws", "try", "catch", "finally", "synchronized", "assert",
        "import", "package", "protected", "native", "volatile", "System", "Random", "Thread", "Object", "hashCode",
        "yield", "var", "public static void main", "double", "float", "MIN_VALUE", "MAX_VALUE"};

    private static int objects;
    private static int elements;

    public static void main(String[] args) throws IOException, IllegalAccessException {
        face();
        insideClasses();
        source(Files.readString(Path.of("src/main/java/CourtDraws.java")));
        room();
        CHECK.finish();
    }

    private static String signature(Method method) {
        StringBuilder told = new StringBuilder(method.getName()).append('(');
        for (Class<?> type : method.getParameterTypes()) {
            told.append(told.charAt(told.length() - 1) == '(' ? "" : ",").append(type.getSimpleName());
        }
        return told.append(')').toString();
    }

    private static void face() {
        Class<?> type = CourtDraws.class;
        CHECK.due("public and final", type.getModifiers(), Modifier.PUBLIC | Modifier.FINAL);
        Set<String> open = new TreeSet<>();
        Set<String> names = new TreeSet<>();
        for (Method method : type.getDeclaredMethods()) {
            if (!Modifier.isPrivate(method.getModifiers())) {
                CHECK.due(method + " is public alone", method.getModifiers(), Modifier.PUBLIC);
                CHECK.due(method + " answers", method.getReturnType().getName(),
                    method.getName().equals("rain") ? "boolean" : "int");
                open.add(signature(method));
                names.add(method.getName());
            }
        }
        CHECK.due("the methods", String.join(" ", open), FACE);
        CHECK.due("no private namesake", type.getDeclaredMethods().length - namesakes(type, names), open.size());
        Constructor<?>[] constructors = type.getDeclaredConstructors();
        CHECK.due("one constructor", constructors.length, 1);
        CHECK.due("without parameters", constructors[0].getParameterCount(), 0);
        CHECK.due("public", constructors[0].getModifiers(), Modifier.PUBLIC);
        Set<String> constants = new TreeSet<>();
        for (Field field : type.getDeclaredFields()) {
            int modifiers = field.getModifiers();
            CHECK.due(field + " is final", Modifier.isFinal(modifiers), true);
            if (!Modifier.isPrivate(modifiers)) {
                CHECK.due(field + " is a constant", modifiers, Modifier.PUBLIC | Modifier.STATIC | Modifier.FINAL);
                constants.add(field.getName());
            }
        }
        CHECK.due("the constants", constants.toString(), "[ENDED, FULL, LATER, NUMBER, STATE, TWICE, UNKNOWN]");
        CHECK.due("their values", Arrays.toString(new int[] {CourtDraws.NUMBER, CourtDraws.FULL, CourtDraws.TWICE,
            CourtDraws.STATE, CourtDraws.UNKNOWN, CourtDraws.ENDED, CourtDraws.LATER}), "[-1, -2, -3, -4, -5, -6, -7]");
    }

    /** How many methods are private, of which none may bear a name of the face. */
    private static int namesakes(Class<?> type, Set<String> names) {
        int hidden = 0;
        for (Method method : type.getDeclaredMethods()) {
            if (Modifier.isPrivate(method.getModifiers())) {
                CHECK.due(method + " bears a name of its own", names.contains(method.getName()), false);
                hidden++;
            }
        }
        return hidden;
    }

    private static void insideClasses() {
        Class<?>[] inside = CourtDraws.class.getDeclaredClasses();
        CHECK.due("some twelve classes at most", inside.length < 12, true);
        for (Class<?> type : inside) {
            CHECK.due(type + " is static", Modifier.isStatic(type.getModifiers()), true);
            CHECK.due(type + " isn't public", type.getModifiers() & (Modifier.PUBLIC | Modifier.PROTECTED), 0);
            CHECK.due(type + " has some twenty fields at most", type.getDeclaredFields().length <= 20, true);
            for (Field field : type.getDeclaredFields()) {
                CHECK.due(field + " is no static state", Modifier.isStatic(field.getModifiers()), false);
            }
            for (Method method : type.getDeclaredMethods()) {
                CHECK.due(method + " is none of the face", (" " + FACE).contains(" " + method.getName() + "("), false);
                CHECK.due(method + " has seven parameters at most", method.getParameterCount() <= 7, true);
            }
        }
    }

    private static void source(String text) {
        String code = text.replaceAll("(?s)/\\*.*?\\*/", "").replaceAll("//[^\n]*", "");
        for (String word : WORDS) {
            Matcher found = Pattern.compile("\\b" + word + "\\b").matcher(code);
            CHECK.due("the word " + word + " stands in the source", found.find(), false);
        }
        CHECK.due("a lambda", code.contains("->"), false);
        CHECK.due("a method reference", code.contains("::"), false);
        CHECK.due("a while loop without a bound", code.contains("while (true)") || code.contains("for (;;)"), false);
        for (int i = 0; i < text.length(); i++) {
            if (text.charAt(i) > 126) {
                CHECK.due("a character at " + i, text.charAt(i), ' ');
            }
        }
        methodsStayShort(code.split("\n"));
        nothingIsMadeByCalls(code.split("\n"));
        callsStayShallow(code);
    }

    /** What a call makes stays in the room: so rows are made with the object, by its fields and constructors. */
    private static void nothingIsMadeByCalls(String[] lines) {
        for (String line : lines) {
            if (line.matches(".*\\bnew\\b.*")) {
                boolean field = line.matches(" +(private )?final \\S+ \\w+ = new [^;]*;");
                boolean part = line.matches(" +\\w+(\\[\\w\\])? = new \\w+\\(\\);");
                CHECK.due("made with the object: " + line.trim(), field || part, true);
            }
        }
    }

    /** Rules 8 and 11: no method calls itself, not even through others, and calls go at most eight deep. */
    private static void callsStayShallow(String code) {
        Map<String, String> bodies = new TreeMap<>();
        String method = "(?ms)^( {4,8})(?:[a-zA-Z\\[\\]]+ )+(\\w+)\\([^)]*\\) \\{(.*?)^\\1\\}";
        Matcher found = Pattern.compile(method).matcher(code);
        while (found.find()) {
            CHECK.due(found.group(2) + " is the name of one method", bodies.containsKey(found.group(2)), false);
            bodies.put(found.group(2), found.group(3));
        }
        CHECK.due("methods were found", bodies.size() > 80, true);
        for (String name : bodies.keySet()) {
            CHECK.due(name + " goes at most eight deep", depth(name, bodies, 0) <= 8, true);
        }
    }

    private static int depth(String name, Map<String, String> bodies, int above) {
        int deepest = 0;
        for (String other : bodies.keySet()) {
            if (above < 20 && Pattern.compile("\\b" + other + "\\(").matcher(bodies.get(name)).find()) {
                deepest = Math.max(deepest, depth(other, bodies, above + 1));
            }
        }
        return deepest + 1;
    }

    private static void methodsStayShort(String[] lines) {
        int began = -1;
        String indent = "";
        for (int i = 0; i < lines.length; i++) {
            if (began < 0 && lines[i].matches(" {4,8}[a-zA-Z].*\\) \\{")) {
                began = i;
                indent = lines[i].replaceAll("\\S.*", "");
            } else if (began >= 0 && lines[i].equals(indent + "}")) {
                CHECK.due("the method at line " + began + " stays short", i - began <= 60, true);
                began = -1;
            }
        }
    }

    /** All calls of a run live in one room: an object must stay small, however many of them a run makes. */
    private static void room() throws IllegalAccessException {
        weigh(new CourtDraws(), Collections.newSetFromMap(new IdentityHashMap<>()));
        CHECK.due("objects and arrays of an office: " + objects, objects <= 100, true);
        CHECK.due("fields and elements of an office: " + elements, elements <= 2500, true);
    }

    private static void weigh(Object thing, Set<Object> seen) throws IllegalAccessException {
        if (thing == null || !seen.add(thing)) {
            return;
        }
        objects++;
        if (thing.getClass().isArray()) {
            elements += Array.getLength(thing);
            if (thing instanceof Object[] row) {
                for (Object part : row) {
                    weigh(part, seen);
                }
            }
            return;
        }
        for (Field field : thing.getClass().getDeclaredFields()) {
            if (!Modifier.isStatic(field.getModifiers())) {
                elements++;
                if (!field.getType().isPrimitive()) {
                    field.setAccessible(true);
                    weigh(field.get(thing), seen);
                }
            }
        }
    }
}
