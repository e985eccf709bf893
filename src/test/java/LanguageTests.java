import java.io.IOException;
import java.io.InputStream;
import java.io.PrintWriter;
import java.io.StringWriter;
import java.lang.reflect.Constructor;
import java.lang.reflect.Field;
import java.lang.reflect.Method;
import java.lang.reflect.Modifier;
import java.nio.charset.StandardCharsets;
import java.nio.file.Files;
import java.nio.file.Path;
import java.util.ArrayList;
import java.util.Arrays;
import java.util.HashMap;
import java.util.HashSet;
import java.util.List;
import java.util.Map;
import java.util.Set;
import java.util.TreeSet;
import java.util.regex.Matcher;
import java.util.regex.Pattern;
import java.util.spi.ToolProvider;

/** The rules of LANGUAGE.md that can be seen from the source and from the compiled classes. */
public final class LanguageTests {
    private static final Path SOURCE = Path.of("src", "main", "java", "SparesHouse.java");
    private static final String[] WORDS = {
        "throw", "throws", "try", "catch", "finally", "synchronized", "assert", "import", "package", "protected",
        "native", "volatile", "transient", "double", "float", "hashCode", "toString", "values", "Object", "record"};

    private static int wrong = 0;

    private static void due(String rule, boolean holds) {
        if (!holds) {
            wrong++;
            System.out.println("LANGUAGE.md: " + rule);
        }
    }

    public static void main(String[] args) throws IOException {
        String code = bare(Files.readString(SOURCE, StandardCharsets.ISO_8859_1));
        words(code);
        methods(code);
        faceAsItStands(code);
        face();
        List<Class<?>> all = new ArrayList<>(Arrays.asList(SparesHouse.class.getDeclaredClasses()));
        due("11: at most twelve classes", all.size() + 1 <= 12);
        all.add(SparesHouse.class);
        for (Class<?> one : all) {
            inside(one);
            compiled(one);
        }
        depth(all);
        System.out.println(wrong == 0 ? "LanguageTests: the rules hold" : "LanguageTests: " + wrong + " rules are broken");
        if (wrong != 0) {
            System.exit(1);
        }
    }

    /** The source without comments and without what stands in quotes. */
    private static String bare(String source) {
        String tokens = "/\\*.*?\\*/|//[^\\n]*|\"(?:\\\\.|[^\"\\\\])*\"|'(?:\\\\.|[^'\\\\])*'";
        return Pattern.compile(tokens, Pattern.DOTALL).matcher(source).replaceAll(" ");
    }

    private static void words(String code) {
        for (String word : WORDS) {
            due("6: no " + word, !Pattern.compile("\\b" + word + "\\b").matcher(code).find());
        }
        due("2: no lambda, no method reference", !code.contains("->") && !code.contains("::"));
        due("4: nothing that ends in Exact", !Pattern.compile("\\w+Exact\\b").matcher(code).find());
        Matcher system = Pattern.compile("\\bSystem\\.(\\w+)").matcher(code);
        while (system.find()) {
            due("4: System." + system.group(1), system.group(1).equals("arraycopy"));
        }
        Matcher math = Pattern.compile("\\bMath\\.(\\w+)").matcher(code);
        while (math.find()) {
            due("4: Math." + math.group(1), Set.of("min", "max", "abs", "floorDiv", "floorMod").contains(math.group(1)));
        }
    }

    /** A method's head stands on one line that ends in a brace; its end has the head's indentation. */
    private static void methods(String code) {
        String[] lines = code.split("\n");
        Pattern head = Pattern.compile("^( +)(?:(?:public|private|static|final) )*[\\w\\[\\]]+ ?\\w*\\(([^)]*)\\) \\{$");
        for (int i = 0; i < lines.length; i++) {
            Matcher m = head.matcher(lines[i]);
            if (!m.find() || lines[i].trim().matches("(if|for|while|switch) .*")) {
                continue;
            }
            int end = i;
            while (end < lines.length && !lines[end].equals(m.group(1) + "}")) {
                end++;
            }
            due("11: a short method: " + lines[i].trim(), end - i <= 60);
            due("11: at most seven parameters: " + lines[i].trim(), m.group(2).split(",").length <= 7);
        }
    }

    /** The source has the document's face line by line, with its names and its order. */
    private static void faceAsItStands(String code) {
        List<String> stands = new ArrayList<>();
        for (String line : code.split("\n")) {
            if (line.startsWith("    public ")) {
                stands.add(line.trim().replaceAll(" \\{$", ";"));
            }
        }
        due("1: the face as the document has it: " + stands, stands.equals(Document.face()));
        due("1: the class as the document has it", code.contains("public final class SparesHouse {"));
    }

    /** The methods' heads by the document: types alone, as reflection tells them. */
    private static Set<String> heads() {
        Set<String> heads = new TreeSet<>();
        for (String line : Document.face()) {
            if (line.matches("public (int|long) .*\\).*")) {
                heads.add(line.replaceAll("^public |;$", "").replaceAll("(int|boolean) \\w+(?=[,)])", "$1"));
            }
        }
        return heads;
    }

    private static void face() {
        Set<String> publics = new TreeSet<>();
        Set<String> names = new HashSet<>();
        for (Method m : SparesHouse.class.getDeclaredMethods()) {
            if (Modifier.isPublic(m.getModifiers())) {
                publics.add(head(m));
                names.add(m.getName());
            }
        }
        due("1: the face is " + publics, publics.equals(heads()));
        due("1: forty methods", publics.size() == 40);
        for (Method m : SparesHouse.class.getDeclaredMethods()) {
            if (!Modifier.isPublic(m.getModifiers())) {
                due("1: private " + m.getName(), Modifier.isPrivate(m.getModifiers()) && !names.contains(m.getName()));
            }
        }
        for (Class<?> one : SparesHouse.class.getDeclaredClasses()) {
            for (Method m : one.getDeclaredMethods()) {
                due("1: a name of the face: " + m, !names.contains(m.getName()));
            }
        }
        for (Field f : SparesHouse.class.getDeclaredFields()) {
            due("1: private " + f.getName(), Modifier.isPrivate(f.getModifiers()) || f.getName().equals("NONE"));
        }
        Constructor<?>[] made = SparesHouse.class.getDeclaredConstructors();
        due("1: one constructor", made.length == 1 && made[0].getParameterCount() == 0);
        due("1: public and final", SparesHouse.class.getModifiers() == (Modifier.PUBLIC | Modifier.FINAL));
    }

    private static String head(Method m) {
        StringBuilder text = new StringBuilder(m.getReturnType().getName() + " " + m.getName() + "(");
        for (Class<?> p : m.getParameterTypes()) {
            text.append(text.charAt(text.length() - 1) == '(' ? "" : ", ").append(p.getName());
        }
        return text.append(")").toString();
    }

    private static void inside(Class<?> one) {
        due("2: static " + one, one == SparesHouse.class || Modifier.isStatic(one.getModifiers()));
        due("2: no class deeper inside " + one, one == SparesHouse.class || one.getDeclaredClasses().length == 0);
        int fields = 0;
        for (Field f : one.getDeclaredFields()) {
            if (Modifier.isStatic(f.getModifiers())) {
                due("5: final " + f, Modifier.isFinal(f.getModifiers()));
                due("5: a constant's type " + f, Set.of("int", "long", "boolean", "char", "java.lang.String", "[I", "[J",
                    "[C", "[B").contains(f.getType().getName()));
            } else {
                fields++;
            }
        }
        due("11: some twenty fields in " + one, fields <= 20);
    }

    /** Texts joined by + and lambdas leave their traces in a compiled class. */
    private static void compiled(Class<?> one) throws IOException {
        String file = one.getName() + ".class";
        try (InputStream in = one.getResourceAsStream(file)) {
            String bytes = new String(in.readAllBytes(), StandardCharsets.ISO_8859_1);
            due("10: texts are joined by + in " + file, !bytes.contains("makeConcatWithConstants"));
            due("2: a lambda in " + file, !bytes.contains("LambdaMetafactory"));
            due("13: a clock, chance or a file in " + file, !bytes.contains("java/util/Random")
                && !bytes.contains("nanoTime") && !bytes.contains("java/io/"));
        }
    }

    /** Rule 11: no chain of calls, the library's last one too, is longer than eight. */
    private static void depth(List<Class<?>> all) {
        ToolProvider javap = ToolProvider.findFirst("javap").orElse(null);
        if (javap == null) {
            System.out.println("LanguageTests: without javap the depth of calls is not looked at");
            return;
        }
        Map<String, Set<String>> calls = new HashMap<>();
        for (Class<?> one : all) {
            StringWriter code = new StringWriter();
            StringWriter errors = new StringWriter();
            int failed = javap.run(new PrintWriter(code), new PrintWriter(errors), "-c", "-p", "-cp",
                System.getProperty("java.class.path"), one.getName());
            due("11: javap of " + one + ": " + errors, failed == 0);
            callsOf(one.getName(), code.toString(), calls);
        }
        due("11: calls were found", calls.size() > 40);
        for (String method : calls.keySet()) {
            due("11: calls deeper than eight from " + method, depthOf(method, calls, 1) <= 8);
        }
    }

    private static void callsOf(String name, String code, Map<String, Set<String>> calls) {
        Pattern head = Pattern.compile("^  (?:[^(]* )?([\\w$]+)\\([^)]*\\);$");
        Pattern call = Pattern.compile("// (?:Interface)?Method ([^:]+):");
        Set<String> of = new HashSet<>();
        for (String line : code.split("\\R")) {
            Matcher h = head.matcher(line);
            if (h.find()) {
                String method = h.group(1).equals(name) ? "<init>" : h.group(1);
                of = calls.computeIfAbsent(name + "." + method, m -> new HashSet<>());
            }
            Matcher c = call.matcher(line);
            if (c.find()) {
                String called = c.group(1).replace("\"", "").replace('/', '.');
                of.add(called.contains(".") ? called : name + "." + called);
            }
        }
    }

    /** Recursion would go on for ever: beyond twenty it is deep enough to be told. */
    private static int depthOf(String method, Map<String, Set<String>> calls, int level) {
        int deepest = 1;
        if (level <= 20) {
            for (String called : calls.getOrDefault(method, Set.of())) {
                deepest = Math.max(deepest, 1 + depthOf(called, calls, level + 1));
            }
        }
        return deepest;
    }
}
