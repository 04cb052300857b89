import java.io.IOException;
import java.lang.reflect.Constructor;
import java.lang.reflect.Field;
import java.lang.reflect.Method;
import java.lang.reflect.Modifier;
import java.nio.charset.StandardCharsets;
import java.nio.file.Files;
import java.nio.file.Path;
import java.util.Arrays;
import java.util.List;
import java.util.Set;
import java.util.TreeSet;
import java.util.regex.Matcher;
import java.util.regex.Pattern;

/** The face of the document, and what of the language's rules can be seen from outside. */
public final class LanguageTest {
    private static final Check CHECK = new Check();
    private static final String FACE = """
        public boolean type(long,int)
        public int kind() throws java.lang.IllegalArgumentException,java.lang.IllegalStateException
        public int fault()
        public int tick(int,int)
        public int act(int,int,int,int,int,int)
        public int commit(int,int,int)
        public boolean cursor(int,int,int,int)
        public int where(int,int,int)
        public boolean stand(int,int,int,int,int,int)
        public int listed(int,int,int)
        public int turned(int,int,int)
        public boolean send(int,int,boolean)
        public int deliver(int)
        public boolean lose(int)
        public boolean twice(int)
        public int octet(int,int)
        public boolean bend(int,int,int)
        public boolean join(int,int)
        public int object(int,int,int)
        public int size(int,int,int)
        public int value(int,int,int,int) throws java.util.NoSuchElementException
        public int bound(int,int,int,int) throws java.util.NoSuchElementException
        public int by(int,int,int,int)
        public int list(int,int)
        public int count(int,int,int,int,int)
        public int ranked(int,int,int,int)
        public int past(int,int,int,int) throws java.util.NoSuchElementException
        public int was(int,int,int,int,int)
        public int row(int,int,int)
        public int frame(int,int)
        public int news(int,int,int)
        public int calm(int)
        public int node(int,int)
        public int total(int)
        """;

    public static void main(String[] args) throws IOException {
        face();
        nestedClasses();
        source();
        methods();
        CHECK.end();
    }

    private static void face() {
        Class<?> house = AccordHouse.class;
        CHECK.dueText("the class", Modifier.toString(house.getModifiers()), "public final");
        Set<String> due = new TreeSet<>(List.of(FACE.strip().split("\n")));
        Set<String> got = new TreeSet<>();
        Set<String> open = new TreeSet<>();
        for (Method method : house.getDeclaredMethods()) {
            if (Modifier.isPrivate(method.getModifiers())) {
                continue;
            }
            got.add(method.toString().replace("AccordHouse.", ""));
            open.add(method.getName());
        }
        CHECK.dueText("the methods", String.join("\n", got), String.join("\n", due));
        Constructor<?>[] constructors = house.getDeclaredConstructors();
        CHECK.due("constructors", constructors.length, 1);
        CHECK.dueText("the constructor", constructors[0].toString(), "public AccordHouse()");
        for (Field field : house.getDeclaredFields()) {
            int how = field.getModifiers();
            boolean constant = field.getName().equals("NONE");
            CHECK.dueText(field.getName(), Modifier.toString(how & Modifier.PUBLIC), constant ? "public" : "");
            CHECK.due(field.getName() + " is private or NONE", constant || Modifier.isPrivate(how), true);
            CHECK.due(field.getName() + " if static final", !Modifier.isStatic(how) || Modifier.isFinal(how), true);
        }
        for (Method method : house.getDeclaredMethods()) {
            boolean hidden = Modifier.isPrivate(method.getModifiers());
            CHECK.due(method.getName() + " bears no public name", hidden && open.contains(method.getName()), false);
        }
    }

    private static void nestedClasses() {
        Set<String> open = new TreeSet<>();
        for (Method method : AccordHouse.class.getMethods()) {
            open.add(method.getName());
        }
        Class<?>[] nested = AccordHouse.class.getDeclaredClasses();
        CHECK.due("some twelve classes", nested.length <= 12, true);
        for (Class<?> one : nested) {
            CHECK.due(one + " is static", Modifier.isStatic(one.getModifiers()), true);
            CHECK.due(one + " is not open", Modifier.isPublic(one.getModifiers()), false);
            int fields = 0;
            for (Field field : one.getDeclaredFields()) {
                boolean constant = Modifier.isStatic(field.getModifiers());
                fields += constant ? 0 : 1;
                CHECK.due(field + " if static final", !constant || Modifier.isFinal(field.getModifiers()), true);
            }
            CHECK.due(one + " has some twenty fields", fields <= 20, true);
            for (Method method : one.getDeclaredMethods()) {
                CHECK.due(method + " bears no name of the face", open.contains(method.getName()), false);
                CHECK.due(method + " has few parameters", method.getParameterCount() <= 7, true);
            }
        }
    }

    private static String code() throws IOException {
        String text = Files.readString(Path.of("src/main/java/AccordHouse.java"), StandardCharsets.ISO_8859_1);
        for (char letter : text.toCharArray()) {
            if (letter > 126) {
                CHECK.due("a plain character", letter, 32);
            }
        }
        return text.replaceAll("(?s)/\\*.*?\\*/", "").replaceAll("//[^\n]*", "");
    }

    private static void source() throws IOException {
        String code = code();
        CHECK.due("no package", code.contains("package "), false);
        List<String> imports = Arrays.stream(code.split("\n")).filter(x -> x.startsWith("import ")).toList();
        CHECK.dueText("imports", imports.toString(),
            "[import java.util.Arrays;, import java.util.NoSuchElementException;]");
        String[] banned = {"->", "::", "Exact(", "String[]", "finally", "synchronized", "assert ", "catch", "try ",
            "record ", "instanceof", "hashCode", "equals(", "toString", " Object ", "Object[", "System.out", "System.nano",
            "System.current", "Random", "Thread", "double", "float", "interface ", "static {"};
        for (String word : banned) {
            CHECK.due("the source has " + word, code.contains(word), false);
        }
        CHECK.due("no joining of texts by +", Pattern.compile("\"\\s*\\+|\\+\\s*\"").matcher(code).find(), false);
        Matcher thrown = Pattern.compile("throw ([^;]*);").matcher(code);
        while (thrown.find()) {
            boolean due = thrown.group(1).matches(
                "new (IllegalArgumentException|IllegalStateException|NoSuchElementException)\\(\"[^\"]*\"\\)");
            CHECK.due("throw " + thrown.group(1), due, true);
        }
        Matcher library = Pattern.compile("\\b(System|Arrays|Math|Integer|Long)\\.(\\w+)").matcher(code);
        Set<String> allowed = Set.of("System.arraycopy", "Arrays.fill", "Arrays.copyOfRange", "Math.max", "Math.min");
        while (library.find()) {
            CHECK.due("uses " + library.group(), allowed.contains(library.group()), true);
        }
    }

    /** Methods stay short; they begin with a line that ends in { at four or eight blanks. */
    private static void methods() throws IOException {
        String[] lines = code().split("\n");
        int start = -1;
        String end = "";
        for (int i = 0; i < lines.length; i++) {
            Matcher head = Pattern.compile("^( {4}| {8})\\S.*\\) (throws .*)?\\{$").matcher(lines[i]);
            if (start < 0 && head.find()) {
                start = i;
                end = head.group(1) + "}";
            } else if (start >= 0 && lines[i].equals(end)) {
                CHECK.due("length of " + lines[start].strip(), i - start + 1 <= 60, true);
                start = -1;
            }
        }
    }
}
