import java.io.IOException;
import java.io.PrintWriter;
import java.io.StringWriter;
import java.lang.reflect.Constructor;
import java.lang.reflect.Field;
import java.lang.reflect.Method;
import java.lang.reflect.Modifier;
import java.nio.file.Files;
import java.nio.file.Path;
import java.util.ArrayList;
import java.util.Arrays;
import java.util.List;
import java.util.Map;
import java.util.TreeMap;
import java.util.TreeSet;
import java.util.regex.Matcher;
import java.util.regex.Pattern;
import java.util.spi.ToolProvider;

/** What can be seen of the rules of LANGUAGE.md in the source and in the class. */
public final class SourceTest extends Checks {
    private SourceTest() {
    }

    public static void main(String[] args) throws IOException {
        String source = Files.readString(Path.of("src/main/java/PuzzleHouse.java"));
        String code = source.replaceAll("(?s)/\\*.*?\\*/", "").replaceAll("//[^\n]*", "").replaceAll("\"(?:[^\"\\\\]|\\\\.)*\"", "\"\"")
            .replaceAll("'(?:[^'\\\\]|\\\\.)'", "' '");
        words(code);
        face();
        shape(code);
        calls();
        end();
    }

    private static void words(String code) {
        for (String word : List.of("throw", "throws", "try", "catch", "finally", "synchronized", "assert", "import", "package", "var", "instanceof", "native",
            "transient", "volatile", "double", "float", "protected")) {
            so(!Pattern.compile("\\b" + word + "\\b").matcher(code).find(), "no " + word);
        }
        so(!code.contains("->") && !code.contains("::"), "no lambda, no method reference");
        so(!Pattern.compile("\"\"\\s*\\+|\\+\\s*\"\"").matcher(code).find(), "no texts joined by +");
        TreeSet<String> used = new TreeSet<>();
        Matcher m = Pattern.compile("\\b(Math|Integer|Long|System|String|Arrays|Character|Object)\\.(\\w+)").matcher(code);
        while (m.find()) {
            used.add(m.group());
        }
        so(List.of("Integer.bitCount", "Integer.compare", "Long.bitCount", "Math.abs", "Math.max", "Math.min", "System.arraycopy").containsAll(used),
            "nothing but the library that is listed: " + used);
    }

    private static void face() {
        TreeSet<String> seen = new TreeSet<>();
        for (Method method : PuzzleHouse.class.getDeclaredMethods()) {
            if (!Modifier.isPrivate(method.getModifiers())) {
                seen.add(method.toString());
            }
        }
        so(seen.equals(new TreeSet<>(List.of(
            "public int PuzzleHouse.feed(int,int,int,int,int)", "public int PuzzleHouse.ask(int)", "public int PuzzleHouse.answer(int)",
            "public int PuzzleHouse.checkAnswer()", "public int PuzzleHouse.state(int)", "public int PuzzleHouse.byteAt(int,int)",
            "public boolean PuzzleHouse.poke(int,int,int)"))), "the methods of the document: " + seen);
        Constructor<?>[] constructors = PuzzleHouse.class.getDeclaredConstructors();
        so(constructors.length == 1 && constructors[0].toString().equals("public PuzzleHouse()"), "the constructor of the document");
        so(Modifier.isFinal(PuzzleHouse.class.getModifiers()) && Modifier.isPublic(PuzzleHouse.class.getModifiers()), "public and final");
        so(Arrays.stream(PuzzleHouse.class.getDeclaredFields()).allMatch(f -> Modifier.isPrivate(f.getModifiers())), "no field is seen");
        Class<?>[] inside = PuzzleHouse.class.getDeclaredClasses();
        so(inside.length <= 12, "at most twelve classes inside");
        for (Class<?> c : inside) {
            so(Modifier.isStatic(c.getModifiers()) && Modifier.isPrivate(c.getModifiers()), c + " is static and private");
            members(c);
        }
        members(PuzzleHouse.class);
    }

    private static void members(Class<?> c) {
        List<String> open = List.of("feed", "ask", "answer", "checkAnswer", "state", "byteAt", "poke");
        int fields = 0;
        for (Field f : c.getDeclaredFields()) {
            boolean fixed = Modifier.isStatic(f.getModifiers());
            fields += fixed ? 0 : 1;
            so(!fixed || Modifier.isFinal(f.getModifiers()), f + " is final");
        }
        so(fields <= 20, c + " has at most twenty fields: " + fields);
        for (Method m : c.getDeclaredMethods()) {
            so(m.getParameterCount() <= 7, m + " has at most seven parameters");
            so(Modifier.isPublic(m.getModifiers()) || !open.contains(m.getName()), m + " has a name of its own");
        }
    }

    /** Methods begin with four or eight blanks and a name and end with a brace at the same place. */
    private static void shape(String code) {
        String[] lines = code.split("\n", -1);
        for (int i = 0; i < lines.length; i++) {
            Matcher m = Pattern.compile("^( {4}| {8})(?! )(?!.*\\bclass\\b).*\\) \\{$").matcher(lines[i]);
            if (m.find()) {
                int end = i + 1;
                while (end < lines.length && !lines[end].equals(m.group(1) + "}")) {
                    end++;
                }
                so(end - i <= 65, "at most some sixty lines: " + lines[i].trim());
            }
            so(!lines[i].matches(".*\\bwhile \\(true\\).*|.*for \\(;;\\).*"), "each loop has an end: " + lines[i].trim());
        }
    }

    /** Of each method the class's own methods that it calls, as the class file has them; "makes" stands for a new object. */
    private static Map<String, TreeSet<String>> callsOfMethods() {
        StringWriter text = new StringWriter();
        PrintWriter to = new PrintWriter(text);
        List<String> args = new ArrayList<>(List.of("-p", "-c", "-cp", System.getProperty("java.class.path"), "PuzzleHouse"));
        for (Class<?> c : PuzzleHouse.class.getDeclaredClasses()) {
            args.add(c.getName());
        }
        ToolProvider.findFirst("javap").ifPresent(javap -> javap.run(to, to, args.toArray(new String[0])));
        Map<String, TreeSet<String>> all = new TreeMap<>();
        String owner = "";
        String method = "";
        for (String line : text.toString().split("\\R")) {
            Matcher head = Pattern.compile("^(?:public |final |static )*class ([\\w$]+)").matcher(line);
            Matcher member = Pattern.compile("^  [\\w\\[\\]$. ]*?([\\w$]+)\\(.*\\);$").matcher(line);
            Matcher call = Pattern.compile("// Method (?:([\\w$/]+)\\.)?\"?([\\w$<>]+)\"?:").matcher(line);
            if (head.find()) {
                owner = head.group(1);
            } else if (member.find()) {
                method = owner + "." + (member.group(1).equals(owner) ? "<init>" : member.group(1));
                all.put(method, new TreeSet<>());
            } else if (line.startsWith("  static {}")) {
                method = owner + ".<clinit>";
                all.put(method, new TreeSet<>());
            } else if (call.find() && all.containsKey(method)) {
                all.get(method).add((call.group(1) == null ? owner : call.group(1)) + "." + call.group(2));
            } else if (line.matches(" +\\d+: (new|newarray|anewarray|multianewarray) .*") && all.containsKey(method)) {
                all.get(method).add("makes");
            }
        }
        return all;
    }

    private static int deepest(Map<String, TreeSet<String>> all, String method, TreeSet<String> open) {
        int below = 0;
        open.add(method);
        for (String called : all.get(method)) {
            if (all.containsKey(called) && !called.equals(method)) {
                so(!open.contains(called), "methods call themselves, but not one another: " + method + " and " + called);
                below = open.contains(called) ? below : Math.max(below, deepest(all, called, open));
            }
        }
        open.remove(method);
        return 1 + below;
    }

    private static void calls() {
        Map<String, TreeSet<String>> all = callsOfMethods();
        if (ToolProvider.findFirst("javap").isEmpty()) {
            System.out.println("there is no javap here: how deep calls go was not looked at");
            return;
        }
        so(all.containsKey("PuzzleHouse.ask") && all.get("PuzzleHouse.ask").contains("PuzzleHouse.respond"), "the class file was read");
        for (String method : all.keySet()) {
            int deep = deepest(all, method, new TreeSet<>());
            so(deep <= 8, "calls go at most eight deep: " + method + " " + deep);
            so(method.endsWith("init>") || !all.get(method).contains("makes"), "nothing is made but in constructors: " + method);
        }
    }
}
