import java.io.IOException;
import java.lang.reflect.Constructor;
import java.lang.reflect.Field;
import java.lang.reflect.Method;
import java.lang.reflect.Modifier;
import java.nio.file.Files;
import java.nio.file.Path;
import java.util.Arrays;
import java.util.List;
import java.util.Map;
import java.util.TreeMap;
import java.util.TreeSet;
import java.util.regex.Matcher;
import java.util.regex.Pattern;

/** What of ../shared/LANGUAGE.md, and of the document's face, can be seen by a program. */
public final class LanguageTest {
    private static final Path SOURCE = Path.of("src/main/java/DeafAuction.java");
    private static final List<String> FACE = List.of(
            "int hall(int,int,int,int)", "int ofBuyer(int,int)", "int worth(int,int,int)",
            "int limit(int,int)", "int sit(int,int)", "int law(int)", "int sale(int,int)",
            "int bid(int,int)", "int ends(int,int)", "int row(int,int,int,int,int)",
            "int gain(int,int)", "int best(int,int,int)", "int order(int)", "int ring(int,int)",
            "long mean(int,int)", "int hangs(int)", "int reading(int,int)", "int back(int)",
            "int values(int,int,int)", "int places(int)", "int sheet(int,int,int)",
            "int lose(int)", "int put(int,int,int)", "long cell(int,int,int)",
            "int copy(int,int,int,int,int)", "int tell(int)", "int nod(int)", "int as(int,int)",
            "int trace()", "int fault()", "int many(int)");

    private LanguageTest() {
    }

    public static void main(String[] args) throws IOException {
        constants();
        face();
        nested();
        String code = Files.readString(SOURCE)
                .replaceAll("(?s)/\\*.*?\\*/", " ").replaceAll("//[^\n]*", " ")
                .replaceAll("'[^']'", "0").replaceAll("\"[^\"]*\"", "0");
        words(code);
        methods(code);
        depth(code);
        Check.finish();
    }

    private static void holds(String rule, boolean so) {
        Check.due(0, rule, so ? 1 : 0, 1);
    }

    private static void constants() {
        Check.due(1, "UNKNOWN", DeafAuction.UNKNOWN, -1);
        Check.due(1, "OUTSIDE", DeafAuction.OUTSIDE, -2);
        Check.due(1, "STATE", DeafAuction.STATE, -3);
        Check.due(1, "FULL", DeafAuction.FULL, -4);
        Check.due(1, "NONE", DeafAuction.NONE, -9);
        Check.due(1, "LOST", DeafAuction.LOST, Long.MIN_VALUE);
    }

    private static String told(Method method) {
        StringBuilder text = new StringBuilder(method.getReturnType() + " " + method.getName() + "(");
        String comma = "";
        for (Class<?> type : method.getParameterTypes()) {
            text.append(comma).append(type);
            comma = ",";
        }
        return text.append(")").toString();
    }

    private static void face() {
        Class<?> type = DeafAuction.class;
        holds("public and final", Modifier.isPublic(type.getModifiers()) && Modifier.isFinal(type.getModifiers()));
        TreeSet<String> open = new TreeSet<>();
        TreeSet<String> names = new TreeSet<>();
        for (Method method : type.getDeclaredMethods()) {
            if (!Modifier.isPrivate(method.getModifiers())) {
                holds(method.getName() + " is public", Modifier.isPublic(method.getModifiers()));
                open.add(told(method));
                names.add(method.getName());
            }
        }
        holds("the document's methods and no other: " + open, open.equals(new TreeSet<>(FACE)));
        for (Method method : type.getDeclaredMethods()) {
            boolean hidden = Modifier.isPrivate(method.getModifiers());
            holds(method.getName() + " bears no public name", !hidden || !names.contains(method.getName()));
        }
        TreeSet<String> fields = new TreeSet<>();
        for (Field field : type.getDeclaredFields()) {
            if (!Modifier.isPrivate(field.getModifiers())) {
                fields.add(field.getName());
            }
            holds(field.getName() + " is no static state",
                    !Modifier.isStatic(field.getModifiers()) || Modifier.isFinal(field.getModifiers()));
        }
        List<String> wanted = List.of("UNKNOWN", "OUTSIDE", "STATE", "FULL", "NONE", "LOST");
        holds("the document's constants and no other: " + fields, fields.equals(new TreeSet<>(wanted)));
        Constructor<?>[] makers = type.getDeclaredConstructors();
        holds("one public constructor without parameters", makers.length == 1
                && Modifier.isPublic(makers[0].getModifiers()) && makers[0].getParameterCount() == 0);
    }

    private static void nested() {
        Class<?>[] classes = DeafAuction.class.getDeclaredClasses();
        holds("some twelve classes at most", classes.length < 12);
        TreeSet<String> names = new TreeSet<>();
        FACE.forEach(call -> names.add(call.replaceAll("^\\w+ (\\w+)\\(.*", "$1")));
        for (Class<?> type : classes) {
            holds(type + " is static", Modifier.isStatic(type.getModifiers()));
            holds(type + " is not public", !Modifier.isPublic(type.getModifiers()));
            holds(type + " has some twenty fields at most", type.getDeclaredFields().length <= 20);
            for (Method method : type.getDeclaredMethods()) {
                holds(method + " bears no public name", !names.contains(method.getName()));
            }
        }
    }

    private static void words(String code) {
        for (String word : List.of("throw", "throws", "try", "catch", "finally", "synchronized",
                "assert", "import", "package", "\\w+Exact", "hashCode", "toString", "equals",
                "volatile", "transient", "native", "yield", "var", "protected")) {
            holds("no " + word, !Pattern.compile("\\b" + word + "\\b").matcher(code).find());
        }
        for (String sign : List.of("->", "::", "@", "\"", "static {", "while (true)", "for (;;)")) {
            holds("no " + sign, !code.contains(sign));
        }
        Matcher library = Pattern.compile("\\b([A-Z]\\w*)\\.(\\w+)").matcher(code);
        List<String> allowed = List.of("Math.min", "Math.max", "System.arraycopy", "Long.MIN_VALUE");
        while (library.find()) {
            holds(library.group() + " is in the list", allowed.contains(library.group()));
        }
    }

    /** Methods have seven parameters and some sixty lines at most. */
    private static void methods(String code) {
        String[] lines = code.split("\n");
        int found = 0;
        for (int from = 0; from < lines.length; from++) {
            Matcher head = headOf(lines[from]);
            if (head == null) {
                continue;
            }
            found++;
            holds("some sixty lines at most: " + lines[from].trim(), endOf(lines, from, head) - from < 60);
            holds("seven parameters at most: " + lines[from].trim(),
                    Arrays.stream(head.group(3).split(",")).count() <= 7);
        }
        holds("methods were found", found > FACE.size());
    }

    private static Matcher headOf(String line) {
        Matcher head = Pattern.compile("^( {4}| {8})(?=\\w)(?:.*\\W)?(\\w+)\\(([^()]*)\\) \\{$").matcher(line);
        boolean isHead = head.matches() && !line.matches("\\s*(if|for|while|switch|else)\\b.*");
        return isHead ? head : null;
    }

    private static int endOf(String[] lines, int from, Matcher head) {
        int to = from;
        while (to < lines.length && !lines[to].equals(head.group(1) + "}")) {
            to++;
        }
        return to;
    }

    /** No method comes back to itself, and calls go at most eight deep; methods of one name are one. */
    private static void depth(String code) {
        String[] lines = code.split("\n");
        Map<String, TreeSet<String>> calls = new TreeMap<>();
        for (int from = 0; from < lines.length; from++) {
            Matcher head = headOf(lines[from]);
            if (head == null) {
                continue;
            }
            TreeSet<String> called = calls.computeIfAbsent(head.group(2), name -> new TreeSet<>());
            for (int at = from + 1; at < endOf(lines, from, head); at++) {
                // What a class above gives bears the same name, but is no way back.
                Matcher call = Pattern.compile("(?<!super\\.)\\b(\\w+)\\(").matcher(lines[at]);
                while (call.find()) {
                    called.add(call.group(1));
                }
            }
        }
        for (String call : FACE) {
            String name = call.replaceAll("^\\w+ (\\w+)\\(.*", "$1");
            holds(name + " is found", calls.containsKey(name));
            holds("at most eight deep: " + name, levels(calls, name, 1) <= 8);
        }
    }

    private static int levels(Map<String, TreeSet<String>> calls, String name, int level) {
        int deepest = level;
        // A way back to itself would never end: far above eight it is cut off.
        if (level < 20) {
            for (String called : calls.get(name)) {
                if (calls.containsKey(called)) {
                    deepest = Math.max(deepest, levels(calls, called, level + 1));
                }
            }
        }
        return deepest;
    }
}
