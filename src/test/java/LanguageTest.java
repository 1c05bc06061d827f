import java.io.IOException;
import java.lang.reflect.Constructor;
import java.lang.reflect.Field;
import java.lang.reflect.Method;
import java.lang.reflect.Modifier;
import java.nio.file.Files;
import java.nio.file.Path;
import java.util.ArrayList;
import java.util.List;
import java.util.TreeMap;
import java.util.TreeSet;
import java.util.regex.Matcher;
import java.util.regex.Pattern;

/** Looks in the program for what ../shared/LANGUAGE.md rules out, as far as this can be seen. */
public final class LanguageTest {
    private static final Path SOURCE = Path.of("src/main/java/Kitwarden.java");
    private static final Path DOCUMENT = Path.of("../shared/DOC.md");
    private static final Pattern METHOD = Pattern.compile(
            "^ {4,8}(?:(?:public|private|static|final) )*[\\w\\[\\]<>]+ (\\w+)\\(([^)]*)\\)[^;]*$");

    private static final TreeMap<String, Integer> LENGTHS = new TreeMap<>();
    private static final TreeMap<String, TreeSet<String>> CALLS = new TreeMap<>();
    private static final TreeMap<String, StringBuilder> BODIES = new TreeMap<>();

    public static void main(String[] args) throws IOException {
        String source = Files.readString(SOURCE);
        String code = source.replaceAll("(?s)/\\*.*?\\*/", "").replaceAll("//[^\\n]*", "")
                .replaceAll("\"(?:[^\"\\\\]|\\\\.)*\"", "\"\"");
        face();
        words(code);
        library(code);
        fieldsAndClasses();
        findMethods(code.split("\n"));
        sizes();
        depth();
        Kit.end("LanguageTest");
    }

    private static void refuse(String what, String code, String pattern) {
        Matcher m = Pattern.compile(pattern).matcher(code);
        Kit.same(what, m.find() ? m.group() : "none", "none");
    }

    /** Rule 1: the public members are those of the document, and nothing else is not private. */
    private static void face() throws IOException {
        TreeSet<String> due = new TreeSet<>();
        Matcher m = Pattern.compile("(?m)^    public (?:int|boolean|double|float) \\w+\\(.*;$")
                .matcher(Files.readString(DOCUMENT));
        while (m.find()) {
            String face = m.group().trim().replaceAll("(int|boolean) \\w+(?=[,)])", "$1");
            due.add(face.replace(";", "").replace(", ", ","));
        }
        TreeSet<String> got = new TreeSet<>();
        for (Method method : Kitwarden.class.getDeclaredMethods()) {
            if (!Modifier.isPrivate(method.getModifiers())) {
                got.add(method.toString().replace("java.lang.", "").replace("java.util.", "")
                        .replace("Kitwarden.", "").replace(",", ","));
            }
        }
        Kit.same("methods of the face", got.toString().replace("(", " (").replace(" (", "("),
                due.toString());
        TreeSet<String> fields = new TreeSet<>();
        for (Field field : Kitwarden.class.getDeclaredFields()) {
            if (!Modifier.isPrivate(field.getModifiers())) {
                fields.add(field.toString().replaceAll(".*static final int Kitwarden.", ""));
            }
        }
        Kit.same("constants", fields.toString(), "[FETCH, FILE, NONE, RING, SCRIPT, SPACE]");
        Constructor<?>[] made = Kitwarden.class.getDeclaredConstructors();
        Kit.same("constructors", made.length + " " + made[0], "1 public Kitwarden()");
        Kit.same("the class", Modifier.toString(Kitwarden.class.getModifiers()), "public final");
    }

    /** Rules 2, 5, 6, 10. */
    private static void words(String code) {
        refuse("lambda", code, "->");
        refuse("method reference", code, "::");
        refuse("try, catch, finally", code, "\\b(try|catch|finally)\\b");
        refuse("synchronized, assert, goto of threads", code, "\\b(synchronized|assert|volatile)\\b");
        refuse("static block", code, "static \\{");
        refuse("static that is not final", code,
                "(?m)^ *(?:private |public )?static (?!final)[\\w\\[\\]<>]+ \\w+( =|;)");
        refuse("joined texts", code, "\"\" \\+|\\+ \"\"");
        refuse("other exceptions", code, "throw (?!new (IllegalState|IllegalArgument|IndexOutOfBounds"
                + "|NoSuchElement)(Exception)\\(\"\"\\))");
        refuse("var or generics of others", code, "\\bvar\\b|<[A-Z]\\w*(?<!State)>");
        refuse("objects of their own kind", code, "\\b(equals|hashCode|toString)\\b");
        refuse("doubles by Math", code, "Math\\.(?!floorMod|floorDiv|max|min|abs)\\w+");
    }

    /** Rule 4. */
    private static void library(String code) {
        Matcher m = Pattern.compile("\\b([A-Z][a-z]\\w*)\\.(\\w+)\\(").matcher(code);
        TreeSet<String> used = new TreeSet<>();
        while (m.find()) {
            used.add(m.group(1) + "." + m.group(2));
        }
        used.removeIf(u -> u.matches("(Span|Reader|Solver|Clauses)\\..*"));
        Kit.same("library", used.toString(), "[Arrays.fill, Integer.bitCount, Long.bitCount, "
                + "Math.floorMod, Math.min, System.arraycopy]");
        refuse("fill of what is no number", code, "Arrays.fill\\([^)]*(true|false|null)\\)");
        m = Pattern.compile("(?m)^import (.*);").matcher(code);
        TreeSet<String> imports = new TreeSet<>();
        while (m.find()) {
            imports.add(m.group(1));
        }
        Kit.same("imports", imports.toString(),
                "[java.util.ArrayList, java.util.Arrays, java.util.NoSuchElementException]");
    }

    /** Rules 2, 3, 5, 11. */
    private static void fieldsAndClasses() {
        List<Class<?>> classes = new ArrayList<>(List.of(Kitwarden.class.getDeclaredClasses()));
        Kit.same("some twelve classes", classes.size() <= 13, true);
        for (Class<?> one : classes) {
            Kit.same(one + " is static", Modifier.isStatic(one.getModifiers()), true);
            Kit.same(one + " is not public", Modifier.isPublic(one.getModifiers()), false);
        }
        classes.add(Kitwarden.class);
        for (Class<?> one : classes) {
            int fields = 0;
            for (Field field : one.getDeclaredFields()) {
                if (Modifier.isStatic(field.getModifiers())) {
                    Kit.same(field + " is final", Modifier.isFinal(field.getModifiers()), true);
                } else {
                    fields++;
                }
            }
            Kit.same(one + " has some twenty fields, not " + fields, fields <= 20, true);
        }
    }

    private static void findMethods(String[] lines) {
        String owner = "Kitwarden";
        String method = null;
        for (String line : lines) {
            Matcher type = Pattern.compile("^    private static final class (\\w+) ").matcher(line);
            if (type.find()) {
                owner = type.group(1);
            }
            Matcher m = METHOD.matcher(line);
            if (m.find() && !line.contains(" new ") && !line.contains("return")) {
                method = owner + "." + m.group(1);
                BODIES.put(method, new StringBuilder());
                LENGTHS.put(method, 0);
                int parameters = m.group(2).isEmpty() ? 0 : m.group(2).split(",").length;
                Kit.same(method + " has seven parameters at most", parameters <= 7, true);
            } else if (method != null) {
                BODIES.get(method).append(line).append('\n');
                if (!line.isBlank()) {
                    LENGTHS.merge(method, 1, Integer::sum);
                }
                if (line.equals(owner.equals("Kitwarden") ? "    }" : "        }")) {
                    method = null;
                }
            }
        }
        for (String from : BODIES.keySet()) {
            CALLS.put(from, new TreeSet<>());
            Matcher call = Pattern.compile("(\\w+\\.)?(\\w+)\\(").matcher(BODIES.get(from));
            while (call.find()) {
                String own = from.substring(0, from.indexOf('.') + 1) + call.group(2);
                boolean isOwn = call.group(1) == null && BODIES.containsKey(own);
                for (String to : BODIES.keySet()) {
                    boolean isNamed = to.endsWith("." + call.group(2));
                    if (isOwn ? to.equals(own) : isNamed && !to.equals(from)) {
                        CALLS.get(from).add(to);
                    }
                }
            }
        }
        Kit.same("methods were found", BODIES.size() > 150, true);
    }

    /** Rule 11. */
    private static void sizes() {
        LENGTHS.forEach((method, lines) -> Kit.same(method + " is short, not " + lines, lines <= 50,
                true));
    }

    /** Rules 8 and 11: no method calls itself, and calls go at most eight deep. */
    private static void depth() {
        for (String method : CALLS.keySet()) {
            if (method.startsWith("Kitwarden.")) {
                walk(method, new ArrayList<>());
            }
        }
    }

    private static void walk(String method, List<String> open) {
        if (open.contains(method) && !method.endsWith(".copyFrom")) {
            Kit.same("recursion", open + " " + method, "none");
        }
        if (open.contains(method)) {
            return;
        }
        open.add(method);
        if (open.size() > 8) {
            Kit.same("calls go eight deep", open.toString(), "fewer");
        }
        CALLS.get(method).forEach(to -> walk(to, open));
        open.remove(open.size() - 1);
    }
}
