import java.io.IOException;
import java.lang.reflect.Constructor;
import java.lang.reflect.Field;
import java.lang.reflect.Method;
import java.lang.reflect.Modifier;
import java.nio.file.Files;
import java.nio.file.Path;
import java.util.Arrays;
import java.util.List;
import java.util.TreeSet;
import java.util.regex.Matcher;
import java.util.regex.Pattern;

/** What can be seen of the rules of LANGUAGE.md in the source and in the class. */
public final class SourceTest {
    private static int right = 0;
    private static int wrong = 0;

    private SourceTest() {
    }

    public static void main(String[] args) throws IOException {
        String source = Files.readString(Path.of("src/main/java/PuzzleHouse.java"));
        String code = source.replaceAll("(?s)/\\*.*?\\*/", "").replaceAll("//[^\n]*", "").replaceAll("\"(?:[^\"\\\\]|\\\\.)*\"", "\"\"")
            .replaceAll("'(?:[^'\\\\]|\\\\.)'", "' '");
        words(code);
        face();
        shape(code);
        System.out.println(right + " passed, " + wrong + " failed");
        System.exit(wrong == 0 ? 0 : 1);
    }

    private static void due(boolean is, String what) {
        if (is) {
            right++;
        } else {
            wrong++;
            System.out.println("not so: " + what);
        }
    }

    private static void words(String code) {
        for (String word : List.of("throw", "throws", "try", "catch", "finally", "synchronized", "assert", "import", "package", "var", "instanceof", "native",
            "transient", "volatile", "double", "float", "protected")) {
            due(!Pattern.compile("\\b" + word + "\\b").matcher(code).find(), "no " + word);
        }
        due(!code.contains("->") && !code.contains("::"), "no lambda, no method reference");
        due(!Pattern.compile("\"\"\\s*\\+|\\+\\s*\"\"").matcher(code).find(), "no texts joined by +");
        TreeSet<String> used = new TreeSet<>();
        Matcher m = Pattern.compile("\\b(Math|Integer|Long|System|String|Arrays|Character|Object)\\.(\\w+)").matcher(code);
        while (m.find()) {
            used.add(m.group());
        }
        due(List.of("Integer.bitCount", "Integer.compare", "Long.bitCount", "Math.abs", "Math.max", "Math.min", "System.arraycopy").containsAll(used),
            "nothing but the library that is listed: " + used);
    }

    private static void face() {
        TreeSet<String> seen = new TreeSet<>();
        for (Method method : PuzzleHouse.class.getDeclaredMethods()) {
            if (!Modifier.isPrivate(method.getModifiers())) {
                seen.add(method.toString());
            }
        }
        due(seen.equals(new TreeSet<>(List.of(
            "public int PuzzleHouse.feed(int,int,int,int,int)", "public int PuzzleHouse.ask(int)", "public int PuzzleHouse.answer(int)",
            "public int PuzzleHouse.checkAnswer()", "public int PuzzleHouse.state(int)", "public int PuzzleHouse.byteAt(int,int)",
            "public boolean PuzzleHouse.poke(int,int,int)"))), "the methods of the document: " + seen);
        Constructor<?>[] constructors = PuzzleHouse.class.getDeclaredConstructors();
        due(constructors.length == 1 && constructors[0].toString().equals("public PuzzleHouse()"), "the constructor of the document");
        due(Modifier.isFinal(PuzzleHouse.class.getModifiers()) && Modifier.isPublic(PuzzleHouse.class.getModifiers()), "public and final");
        due(Arrays.stream(PuzzleHouse.class.getDeclaredFields()).allMatch(f -> Modifier.isPrivate(f.getModifiers())), "no field is seen");
        Class<?>[] inside = PuzzleHouse.class.getDeclaredClasses();
        due(inside.length <= 12, "at most twelve classes inside");
        for (Class<?> c : inside) {
            due(Modifier.isStatic(c.getModifiers()) && Modifier.isPrivate(c.getModifiers()), c + " is static and private");
            members(c);
        }
        members(PuzzleHouse.class);
    }

    private static void members(Class<?> c) {
        List<String> open = List.of("feed", "ask", "answer", "checkAnswer", "state", "byteAt", "poke");
        int fields = 0;
        for (Field f : c.getDeclaredFields()) {
            boolean fixed = Modifier.isStatic(f.getModifiers());
            fields += fixed ? 0 : 1;
            due(!fixed || Modifier.isFinal(f.getModifiers()), f + " is final");
        }
        due(fields <= 20, c + " has at most twenty fields: " + fields);
        for (Method m : c.getDeclaredMethods()) {
            due(m.getParameterCount() <= 7, m + " has at most seven parameters");
            due(Modifier.isPublic(m.getModifiers()) || !open.contains(m.getName()), m + " has a name of its own");
        }
    }

    /** Methods begin with four or eight blanks and a name and end with a brace at the same place. */
    private static void shape(String code) {
        String[] lines = code.split("\n", -1);
        for (int i = 0; i < lines.length; i++) {
            Matcher m = Pattern.compile("^( {4}| {8})(?! )(?!.*\\bclass\\b).*\\) \\{$").matcher(lines[i]);
            if (m.find()) {
                int end = i + 1;
                while (end < lines.length && !lines[end].equals(m.group(1) + "}")) {
                    end++;
                }
                due(end - i <= 65, "at most some sixty lines: " + lines[i].trim());
            }
            due(!lines[i].matches(".*\\bwhile \\(true\\).*|.*for \\(;;\\).*"), "each loop has an end: " + lines[i].trim());
        }
    }
}
