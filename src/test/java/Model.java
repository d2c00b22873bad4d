import java.util.ArrayList;
import java.util.Arrays;
import java.util.HashMap;
import java.util.HashSet;
import java.util.List;
import java.util.Map;
import java.util.Set;
import java.util.TreeSet;
import java.util.regex.Matcher;
import java.util.regex.Pattern;

/**
 * The document once more, in the plainest way: grammar by patterns, everything else by trying all fillings.
 * It shares nothing with PuzzleHouse, so that one can be held against the other.
 */
final class Model {
    static final String D = "[0-9]";
    static final String N = "(?:0|[1-9][0-9]{0,2})";
    static final String M = "(?:0|[1-9][0-9]{0,5})";
    static final String NAME = "[a-z]{1,8}";
    static final String KIND = "(?:unlike|rise|joined|alike|sum " + N + "|count " + N + "|apart " + N + "|seen " + N + ")";
    static final String RULE = "rule " + KIND + "(?: " + N + ")+";
    static final String EACH = "each (?:row|column|pair) " + KIND;
    static final String TEXT = "new " + D + " " + D + " " + D + "(?:;(?:" + RULE + "|" + EACH + "|give " + N + " " + D + "))*";
    static final String LINE = "(?:g" + N + "|r" + N + "|w" + N + " " + N + "|u|b)(?: [+-]" + N + "\\." + N + ")*";
    static final String BOOK = "book " + N + "(?:/" + NAME + " " + TEXT + ")*/" + M;
    static final Pattern REQUEST = Pattern.compile("new " + D + " " + D + " " + D + "|" + RULE + "|" + EACH
        + "|give " + N + " [0-9-]|drop|text|load " + TEXT + "|answers " + N + "|many|pick " + M + "|prove|check (?:" + LINE
        + ";)+|grade|hint|step|solve|teach|clash|least|make " + N + " " + D + "|form|vary " + N + "|find|cover " + N
        + "|barred|person " + D + "|put " + N + " [0-9-]|undo|redo " + N + "|state|mark " + N + " " + D + "|marks " + N
        + "|wrong|contest|set " + NAME + " " + N + "|submit " + D + " " + NAME + " " + N + " " + D
        + "+|table|keep " + NAME + "|open " + NAME + "|remove " + NAME + "|list|cut " + N + "|mend|export|import " + BOOK);
    static final Pattern JUST_TEXT = Pattern.compile(TEXT);

    static final class Rule {
        final String kind;
        final int n;
        final int[] cells;

        Rule(String kind, int n, int[] cells) {
            this.kind = kind;
            this.n = n;
            this.cells = cells;
        }

        boolean counts() {
            return List.of("sum", "count", "apart", "seen").contains(kind);
        }

        String text() {
            StringBuilder b = new StringBuilder("rule " + kind);
            if (counts()) {
                b.append(" ").append(n);
            }
            for (int c : cells) {
                b.append(" ").append(c);
            }
            return b.toString();
        }
    }

    static final class Grid {
        int w = 1, h = 1, s = 1;
        List<Rule> rules = new ArrayList<>();
        int[] given = {-1};

        Grid copy() {
            Grid g = new Grid();
            g.w = w;
            g.h = h;
            g.s = s;
            g.rules = new ArrayList<>(rules);
            g.given = given.clone();
            return g;
        }

        int cells() {
            return w * h;
        }

        String text() {
            StringBuilder b = new StringBuilder("new " + w + " " + h + " " + s);
            for (Rule r : rules) {
                b.append(";").append(r.text());
            }
            for (int c = 0; c < cells(); c++) {
                if (given[c] >= 0) {
                    b.append(";give ").append(c).append(" ").append(given[c]);
                }
            }
            return b.toString();
        }
    }

    static final class Person {
        int[] entries;
        List<TreeSet<Integer>> marks = new ArrayList<>();
        List<int[]> steps = new ArrayList<>();
        int now = -1;
    }

    static final class Item {
        String name;
        Grid grid;
        int points;
        int[] wrong = new int[3];
        int[] right = {-1, -1, -1};
    }

    Grid grid = new Grid();
    Person[] persons = new Person[3];
    int present = 0;
    List<Item> items = new ArrayList<>();
    int[][] pages = new int[32][32];
    boolean open = true;
    List<int[]> log = new ArrayList<>();
    String tape = "";
    String latest = "";

    Model() {
        pages[0][0] = 1;
        playAnew();
    }

    void playAnew() {
        for (int p = 0; p < 3; p++) {
            persons[p] = new Person();
            persons[p].entries = new int[grid.cells()];
            Arrays.fill(persons[p].entries, -1);
            for (int c = 0; c < grid.cells(); c++) {
                persons[p].marks.add(new TreeSet<>());
            }
        }
    }

    // ---- the face ----

    int feed(int... numbers) {
        if (tape.length() + 20 > 3200) {
            return -1;
        }
        StringBuilder b = new StringBuilder(tape);
        for (int v : numbers) {
            for (int k = 3; k >= 0; k--) {
                b.append((char) (v >>> 8 * k & 255));
            }
        }
        tape = b.toString();
        return tape.length();
    }

    int ask(int n) {
        if (n < 0 || n > tape.length()) {
            return -1;
        }
        String r = tape.substring(0, n);
        tape = "";
        latest = respond(r);
        return latest.length();
    }

    int checkAnswer() {
        latest = respond("check " + latest);
        return latest.length();
    }

    int state(int what) {
        switch (what) {
            case 0: return grid.rules.size();
            case 1: return (int) Arrays.stream(grid.given).filter(g -> g >= 0).count();
            case 2: return grid.cells();
            case 3: return grid.s;
            case 4: return persons[present].steps.size();
            case 5: return open ? entries().size() : -1;
            case 6: return tape.length();
            case 7: return latest.length();
            case 8: return present;
            case 9: return items.size();
            default: return -1;
        }
    }

    int byteAt(int page, int i) {
        return page < 0 || page > 31 || i < 0 || i > 31 ? -1 : pages[page][i];
    }

    boolean poke(int page, int i, int mask) {
        if (page < 0 || page > 31 || i < 0 || i > 31 || mask < 1 || mask > 255) {
            return false;
        }
        pages[page][i] ^= mask;
        open = false;
        return true;
    }

    // ---- requests ----

    static boolean begins(String prefix) {
        Matcher m = REQUEST.matcher(prefix);
        return m.matches() || m.hitEnd();
    }

    static int firstWrong(String r) {
        int good = 0;
        int bad = r.length() + 1;
        while (bad - good > 1) {
            int mid = (good + bad) / 2;
            if (begins(r.substring(0, mid))) {
                good = mid;
            } else {
                bad = mid;
            }
        }
        return good;
    }

    String respond(String r) {
        if (!REQUEST.matcher(r).matches()) {
            return "bad " + firstWrong(r);
        }
        String[] w = r.split(" ");
        String rest = r.contains(" ") ? r.substring(r.indexOf(' ') + 1) : "";
        switch (w[0]) {
            case "new": case "rule": case "each": case "give": case "drop": {
                Grid g = grid.copy();
                String said = tell(g, r);
                if (!said.startsWith("no ")) {
                    grid = g;
                    playAnew();
                }
                return said;
            }
            case "text": return grid.text();
            case "load": return become(rest);
            case "answers": return answers(Integer.parseInt(w[1]));
            case "many": return "" + fillings(grid).size();
            case "pick": {
                List<String> all = fillings(grid);
                int k = Integer.parseInt(w[1]);
                return k < all.size() ? all.get(k) : "none";
            }
            case "prove": return prove();
            case "check": return check(rest);
            case "grade": return grade();
            case "hint": return hint();
            case "step": return step();
            case "solve": return solve();
            case "teach": return teach();
            case "clash": return clash();
            case "least": return least();
            case "make": return make(Integer.parseInt(w[1]), Integer.parseInt(w[2]));
            case "form": return form(grid);
            case "vary": return vary(Integer.parseInt(w[1]));
            case "find": return find();
            case "cover": return cover(Integer.parseInt(w[1]));
            case "barred": return barred();
            case "person": case "put": case "undo": case "redo": case "state": case "mark": case "marks": case "wrong":
                return play(w);
            case "contest": case "set": case "submit": case "table":
                return contest(w);
            case "cut": return cut(Integer.parseInt(w[1]));
            case "mend": return mend();
            default:
                return open ? book(w, rest) : "shut";
        }
    }

    static String tell(Grid g, String r) {
        String[] w = r.split(" ");
        switch (w[0]) {
            case "new": {
                int a = Integer.parseInt(w[1]), b = Integer.parseInt(w[2]), c = Integer.parseInt(w[3]);
                if (a == 0 || a > 3 || b == 0 || b > 3 || c == 0 || c > 4) {
                    return "no size";
                }
                g.w = a;
                g.h = b;
                g.s = c;
                g.rules.clear();
                g.given = new int[a * b];
                Arrays.fill(g.given, -1);
                return "ok";
            }
            case "rule": {
                boolean counts = List.of("sum", "count", "apart", "seen").contains(w[1]);
                int from = counts ? 3 : 2;
                Set<Integer> seen = new HashSet<>();
                int[] cells = new int[w.length - from];
                for (int i = from; i < w.length; i++) {
                    int c = Integer.parseInt(w[i]);
                    cells[i - from] = c;
                    if (c >= g.cells() || !seen.add(c)) {
                        return "no cell";
                    }
                }
                if (cells.length > 4) {
                    return "no cell";
                }
                int n = counts ? Integer.parseInt(w[2]) : 0;
                if (n > 99) {
                    return "no number";
                }
                if (g.rules.size() == 12) {
                    return "no room";
                }
                g.rules.add(new Rule(w[1], n, cells));
                return "rule " + (g.rules.size() - 1);
            }
            case "each": {
                int n = w.length > 3 ? Integer.parseInt(w[3]) : 0;
                if (n > 99) {
                    return "no number";
                }
                List<Rule> more = new ArrayList<>();
                if (w[1].equals("row")) {
                    for (int y = 0; y < g.h; y++) {
                        int[] cells = new int[g.w];
                        for (int x = 0; x < g.w; x++) {
                            cells[x] = x + g.w * y;
                        }
                        more.add(new Rule(w[2], n, cells));
                    }
                } else if (w[1].equals("column")) {
                    for (int x = 0; x < g.w; x++) {
                        int[] cells = new int[g.h];
                        for (int y = 0; y < g.h; y++) {
                            cells[y] = x + g.w * y;
                        }
                        more.add(new Rule(w[2], n, cells));
                    }
                } else {
                    for (int a = 0; a < g.cells(); a++) {
                        for (int b = a + 1; b < g.cells(); b++) {
                            if (beside(g, a, b)) {
                                more.add(new Rule(w[2], n, new int[] {a, b}));
                            }
                        }
                    }
                }
                if (g.rules.size() + more.size() > 12) {
                    return "no room";
                }
                g.rules.addAll(more);
                return "rules " + more.size();
            }
            case "give": {
                int c = Integer.parseInt(w[1]);
                if (c >= g.cells()) {
                    return "no cell";
                }
                if (w[2].equals("-")) {
                    g.given[c] = -1;
                    return "ok";
                }
                if (Integer.parseInt(w[2]) >= g.s) {
                    return "no symbol";
                }
                g.given[c] = Integer.parseInt(w[2]);
                return "ok";
            }
            default:
                if (g.rules.isEmpty()) {
                    return "no rule";
                }
                g.rules.remove(g.rules.size() - 1);
                return "ok";
        }
    }

    /** "" when nothing of a text is refused. */
    static String load(Grid g, String text) {
        for (String part : text.split(";")) {
            String said = tell(g, part);
            if (said.startsWith("no ")) {
                return said;
            }
        }
        return "";
    }

    String become(String text) {
        Grid g = new Grid();
        String refused = load(g, text);
        if (!refused.isEmpty()) {
            return refused;
        }
        grid = g;
        playAnew();
        return "ok";
    }

    static boolean beside(Grid g, int a, int b) {
        int ax = a % g.w, ay = a / g.w, bx = b % g.w, by = b / g.w;
        return ax == bx && (ay == by + 1 || by == ay + 1) || ay == by && (ax == bx + 1 || bx == ax + 1);
    }

    /** Whether symbols, of the rule's cells in their order, meet it. */
    static boolean meets(Grid g, Rule r, int[] v) {
        switch (r.kind) {
            case "unlike":
                return Arrays.stream(v).distinct().count() == v.length;
            case "alike":
                return Arrays.stream(v).distinct().count() == 1;
            case "rise":
                for (int i = 1; i < v.length; i++) {
                    if (v[i] <= v[i - 1]) {
                        return false;
                    }
                }
                return true;
            case "apart":
                for (int i = 1; i < v.length; i++) {
                    if (Math.abs(v[i] - v[i - 1]) < r.n) {
                        return false;
                    }
                }
                return true;
            case "sum":
                return Arrays.stream(v).sum() == r.n;
            case "count":
                return Arrays.stream(v).filter(x -> x == v[0]).count() == r.n;
            case "seen": {
                int many = 0;
                for (int i = 0; i < v.length; i++) {
                    boolean above = true;
                    for (int j = 0; j < i; j++) {
                        above &= v[i] > v[j];
                    }
                    many += above ? 1 : 0;
                }
                return many == r.n;
            }
            default: {
                List<Integer> ones = new ArrayList<>();
                for (int i = 0; i < v.length; i++) {
                    if (v[i] == 1) {
                        ones.add(r.cells[i]);
                    }
                }
                if (ones.size() < 2) {
                    return true;
                }
                Set<Integer> reached = new HashSet<>();
                List<Integer> todo = new ArrayList<>(List.of(ones.get(0)));
                while (!todo.isEmpty()) {
                    int a = todo.remove(0);
                    if (reached.add(a)) {
                        for (int b : ones) {
                            if (beside(g, a, b)) {
                                todo.add(b);
                            }
                        }
                    }
                }
                return reached.size() == ones.size();
            }
        }
    }

    static boolean meets(Grid g, Rule r, int[] filling, boolean whole) {
        int[] v = new int[r.cells.length];
        for (int i = 0; i < v.length; i++) {
            v[i] = filling[r.cells[i]];
        }
        return meets(g, r, v);
    }

    static final Map<String, List<String>> KNOWN = new HashMap<>();

    /** All answers in order. */
    static List<String> fillings(Grid g) {
        String key = g.text();
        List<String> known = KNOWN.get(key);
        if (known != null) {
            return known;
        }
        List<String> all = new ArrayList<>();
        fill(g, new int[g.cells()], 0, all);
        if (KNOWN.size() > 200) {
            KNOWN.clear();
        }
        KNOWN.put(key, all);
        return all;
    }

    static void fill(Grid g, int[] f, int c, List<String> all) {
        if (c == g.cells()) {
            StringBuilder b = new StringBuilder();
            for (int v : f) {
                b.append(v);
            }
            all.add(b.toString());
            return;
        }
        for (int s = 0; s < g.s; s++) {
            if (g.given[c] < 0 || g.given[c] == s) {
                f[c] = s;
                boolean met = true;
                for (Rule r : g.rules) {
                    met = met && (Arrays.stream(r.cells).max().getAsInt() != c || meets(g, r, f, true));
                }
                if (met) {
                    fill(g, f, c + 1, all);
                }
            }
        }
    }

    String answers(int n) {
        if (n > 100) {
            return "no number";
        }
        List<String> all = fillings(grid);
        StringBuilder b = new StringBuilder();
        for (int i = 0; i < n && i < all.size(); i++) {
            b.append(all.get(i)).append(" ");
        }
        return b + (all.size() <= n ? "all" : "more");
    }

    // ---- standings ----

    static boolean[][] firstStanding(Grid g) {
        boolean[][] may = new boolean[g.cells()][g.s];
        for (int c = 0; c < g.cells(); c++) {
            for (int s = 0; s < g.s; s++) {
                may[c][s] = g.given[c] < 0 || g.given[c] == s;
            }
        }
        return may;
    }

    static boolean[][] copy(boolean[][] may) {
        boolean[][] b = new boolean[may.length][];
        for (int i = 0; i < may.length; i++) {
            b[i] = may[i].clone();
        }
        return b;
    }

    static int count(boolean[] may) {
        int n = 0;
        for (boolean b : may) {
            n += b ? 1 : 0;
        }
        return n;
    }

    static boolean broken(boolean[][] may) {
        return Arrays.stream(may).anyMatch(m -> count(m) == 0);
    }

    static boolean single(boolean[][] may) {
        return Arrays.stream(may).allMatch(m -> count(m) == 1);
    }

    static boolean[][] only(boolean[][] may, int c, int s) {
        boolean[][] b = copy(may);
        Arrays.fill(b[c], false);
        b[c][s] = true;
        return b;
    }

    /** Whether some way to fill these cells with symbols that they may have meets these rules. */
    static boolean way(Grid g, List<Integer> cells, List<Rule> rules, boolean[][] may, int at, int[] f) {
        if (at == cells.size()) {
            for (Rule r : rules) {
                if (!meets(g, r, f, false)) {
                    return false;
                }
            }
            return true;
        }
        int c = cells.get(at);
        for (int s = 0; s < g.s; s++) {
            if (may[c][s]) {
                f[c] = s;
                if (way(g, cells, rules, may, at + 1, f)) {
                    return true;
                }
            }
        }
        return false;
    }

    static List<Integer> cellsOf(Rule... rules) {
        List<Integer> cells = new ArrayList<>();
        for (Rule r : rules) {
            for (int c : r.cells) {
                if (!cells.contains(c)) {
                    cells.add(c);
                }
            }
        }
        return cells;
    }

    static boolean out(Grid g, boolean[][] may, int c, int s, Rule... rules) {
        return !way(g, cellsOf(rules), List.of(rules), only(may, c, s), 0, new int[g.cells()]);
    }

    /** {rule, cell, symbol} of what is taken first, or null. */
    static int[] one(Grid g, boolean[][] may) {
        for (int r = 0; r < g.rules.size(); r++) {
            for (int c : g.rules.get(r).cells) {
                for (int s = 0; s < g.s; s++) {
                    if (may[c][s] && out(g, may, c, s, g.rules.get(r))) {
                        return new int[] {r, c, s};
                    }
                }
            }
        }
        return null;
    }

    static String denied(Grid g, boolean[][] may, List<Integer> cells, int c) {
        StringBuilder b = new StringBuilder();
        for (int d : cells) {
            for (int t = 0; t < g.s && d != c; t++) {
                if (!may[d][t]) {
                    b.append(" +").append(d).append(".").append(t);
                }
            }
        }
        return b.toString();
    }

    static String ruleLine(Grid g, boolean[][] may, int[] t) {
        return "r" + t[0] + " -" + t[1] + "." + t[2] + denied(g, may, cellsOf(g.rules.get(t[0])), t[1]) + ";";
    }

    /** Goes on (changing the standing), adds the lines, tells how many symbols were taken. */
    static int goOn(Grid g, boolean[][] may, StringBuilder lines) {
        int taken = 0;
        while (!broken(may)) {
            int[] t = one(g, may);
            if (t == null) {
                return taken;
            }
            lines.append(ruleLine(g, may, t));
            may[t[1]][t[2]] = false;
            taken++;
        }
        return taken;
    }

    // ---- the tree ----

    int nodes, most, atFirst;

    static String givenLines(Grid g) {
        StringBuilder b = new StringBuilder();
        for (int c = 0; c < g.cells(); c++) {
            if (g.given[c] >= 0) {
                b.append("g").append(c).append(" +").append(c).append(".").append(g.given[c]).append(";");
            }
        }
        return b.toString();
    }

    static String leafLine(boolean[][] may) {
        StringBuilder b = new StringBuilder("b");
        for (int c = 0; c < may.length; c++) {
            for (int s = 0; s < may[c].length; s++) {
                if (may[c][s]) {
                    b.append(" -").append(c).append(".").append(s);
                }
            }
        }
        return b + ";";
    }

    void node(Grid g, List<String> choices, boolean[][] may, StringBuilder lines) {
        nodes++;
        if (nodes > 100) {
            return;
        }
        most = Math.max(most, choices.size());
        int taken = goOn(g, may, lines);
        if (choices.isEmpty()) {
            atFirst = taken;
        }
        if (!broken(may)) {
            if (single(may)) {
                lines.append(leafLine(may));
            } else {
                int best = -1;
                for (int c = 0; c < may.length; c++) {
                    if (count(may[c]) > 1 && (best < 0 || count(may[c]) < count(may[best]))) {
                        best = c;
                    }
                }
                for (int s = 0; s < g.s; s++) {
                    if (may[best][s]) {
                        List<String> more = new ArrayList<>(choices);
                        more.add(" -" + best + "." + s);
                        node(g, more, only(may, best, s), lines);
                    }
                }
            }
        }
        lines.append("u").append(String.join("", choices)).append(";");
    }

    StringBuilder tree() {
        nodes = 0;
        most = 0;
        StringBuilder lines = new StringBuilder(givenLines(grid));
        node(grid, new ArrayList<>(), firstStanding(grid), lines);
        return lines;
    }

    String prove() {
        String p = tree().toString();
        return nodes > 100 || p.length() > 3000 ? "long" : p;
    }

    String grade() {
        tree();
        return nodes > 100 ? "long" : atFirst + " " + nodes + " " + most;
    }

    // ---- steps ----

    boolean[][] standing() {
        boolean[][] may = firstStanding(grid);
        for (int c = 0; c < may.length; c++) {
            if (persons[present].entries[c] >= 0) {
                may = only(may, c, persons[present].entries[c]);
            }
        }
        return may;
    }

    String hint() {
        boolean[][] may = standing();
        for (int r = 0; r < grid.rules.size(); r++) {
            for (int c : grid.rules.get(r).cells) {
                List<Integer> left = new ArrayList<>();
                for (int s = 0; s < grid.s; s++) {
                    if (may[c][s] && !out(grid, may, c, s, grid.rules.get(r))) {
                        left.add(s);
                    }
                }
                if (left.isEmpty()) {
                    return "can't";
                }
                if (left.size() == 1 && count(may[c]) > 1) {
                    return "hint " + c + " " + left.get(0) + " " + r;
                }
            }
        }
        return "none";
    }

    /** {kind, cell, symbol, R, Q}, or null. */
    static int[] nextStep(Grid g, boolean[][] may) {
        int[] t = one(g, may);
        if (t != null) {
            return new int[] {1, t[1], t[2], t[0], 0};
        }
        for (int r = 0; r < g.rules.size(); r++) {
            for (int q = r + 1; q < g.rules.size(); q++) {
                Rule a = g.rules.get(r), b = g.rules.get(q);
                List<Integer> cells = cellsOf(a, b);
                if (cells.size() > 6 || cells.size() == a.cells.length + b.cells.length) {
                    continue;
                }
                for (int c : cells) {
                    for (int s = 0; s < g.s; s++) {
                        if (may[c][s] && out(g, may, c, s, a, b)) {
                            return new int[] {2, c, s, r, q};
                        }
                    }
                }
            }
        }
        for (int c = 0; c < g.cells(); c++) {
            for (int s = 0; s < g.s && count(may[c]) > 1; s++) {
                if (may[c][s]) {
                    boolean[][] then = only(may, c, s);
                    goOn(g, then, new StringBuilder());
                    if (broken(then)) {
                        return new int[] {3, c, s, 0, 0};
                    }
                }
            }
        }
        return null;
    }

    String step() {
        boolean[][] may = standing();
        int[] t = nextStep(grid, may);
        if (t == null) {
            return single(may) ? "solved" : "stuck";
        }
        String what = t[1] + " " + t[2];
        return t[0] == 1 ? "one " + what + " " + t[3] : t[0] == 2 ? "two " + what + " " + t[3] + " " + t[4] : "try " + what;
    }

    String solve() {
        boolean[][] may = standing();
        int[] many = new int[4];
        while (!broken(may)) {
            int[] t = nextStep(grid, may);
            if (t == null) {
                break;
            }
            many[t[0]]++;
            may[t[1]][t[2]] = false;
        }
        String end = broken(may) ? "broken" : single(may) ? "solved" : "stuck";
        return end + " " + many[1] + " " + many[2] + " " + many[3];
    }

    String teach() {
        String b = lesson();
        return b.length() > 3000 ? "long" : b.length() == 0 ? "." : b;
    }

    String lesson() {
        StringBuilder b = new StringBuilder(givenLines(grid));
        boolean[][] may = firstStanding(grid);
        while (!broken(may)) {
            int[] t = nextStep(grid, may);
            if (t == null) {
                break;
            }
            if (t[0] == 1) {
                b.append(ruleLine(grid, may, new int[] {t[3], t[1], t[2]}));
            } else if (t[0] == 2) {
                b.append("w").append(t[3]).append(" ").append(t[4]).append(" -").append(t[1]).append(".").append(t[2]);
                b.append(denied(grid, may, cellsOf(grid.rules.get(t[3]), grid.rules.get(t[4])), t[1])).append(";");
            } else {
                goOn(grid, only(may, t[1], t[2]), b);
                b.append("u -").append(t[1]).append(".").append(t[2]).append(";");
            }
            may[t[1]][t[2]] = false;
        }
        if (broken(may)) {
            b.append("u;");
        } else if (single(may)) {
            b.append(leafLine(may)).append("u;");
        }
        return b.toString();
    }

    // ---- the checker ----

    static final class Literal {
        boolean plus;
        int c, s;

        boolean isSo(boolean[][] may) {
            return plus ? may[c][s] && count(may[c]) == 1 : !may[c][s];
        }

        boolean isNot(boolean[][] may) {
            return plus ? !may[c][s] : may[c][s] && count(may[c]) == 1;
        }
    }

    static final class Line {
        char kind;
        List<Integer> numbers = new ArrayList<>();
        List<Literal> literals = new ArrayList<>();
        String text;
    }

    static List<Line> lines(String proof) {
        List<Line> all = new ArrayList<>();
        for (String t : proof.split(";")) {
            Line l = new Line();
            l.text = t;
            String[] w = t.split(" ");
            l.kind = w[0].charAt(0);
            if (w[0].length() > 1) {
                l.numbers.add(Integer.parseInt(w[0].substring(1)));
            }
            for (int i = 1; i < w.length; i++) {
                if (w[i].charAt(0) != '+' && w[i].charAt(0) != '-') {
                    l.numbers.add(Integer.parseInt(w[i]));
                    continue;
                }
                Literal x = new Literal();
                x.plus = w[i].charAt(0) == '+';
                String[] cs = w[i].substring(1).split("\\.");
                x.c = Integer.parseInt(cs[0]);
                x.s = Integer.parseInt(cs[1]);
                l.literals.add(x);
            }
            all.add(l);
        }
        return all;
    }

    /** Whether in each way that meets the rules one of the literals of their cells is so. */
    boolean always(Line l, Rule... rules) {
        return always(l, cellsOf(rules), rules, 0, new int[grid.cells()]);
    }

    boolean always(Line l, List<Integer> cells, Rule[] rules, int at, int[] f) {
        if (at < cells.size()) {
            for (int s = 0; s < grid.s; s++) {
                f[cells.get(at)] = s;
                if (!always(l, cells, rules, at + 1, f)) {
                    return false;
                }
            }
            return true;
        }
        for (Rule r : rules) {
            if (!meets(grid, r, f, false)) {
                return true;
            }
        }
        for (Literal x : l.literals) {
            if (cells.contains(x.c) && (f[x.c] == x.s) == x.plus) {
                return true;
            }
        }
        return false;
    }

    boolean units(Line l, List<Line> ahead) {
        boolean[][] may = new boolean[grid.cells()][grid.s];
        for (boolean[] m : may) {
            Arrays.fill(m, true);
        }
        for (Literal x : l.literals) {
            for (int s = 0; s < grid.s; s++) {
                if (x.plus == (s == x.s)) {
                    may[x.c][s] = false;
                }
            }
        }
        boolean changed = true;
        while (changed && !broken(may)) {
            changed = false;
            for (Line a : ahead) {
                int openOnes = 0;
                Literal last = null;
                boolean so = false;
                for (Literal x : a.literals) {
                    so |= x.isSo(may);
                    if (!x.isSo(may) && !x.isNot(may)) {
                        openOnes++;
                        last = x;
                    }
                }
                if (so || broken(may)) {
                    continue;
                }
                if (openOnes == 0) {
                    return true;
                }
                if (openOnes == 1) {
                    changed = true;
                    for (int s = 0; s < grid.s; s++) {
                        if (last.plus != (s == last.s)) {
                            may[last.c][s] = false;
                        }
                    }
                }
            }
        }
        return broken(may);
    }

    boolean right(Line l, List<Line> ahead) {
        Set<String> seen = new HashSet<>();
        for (Literal x : l.literals) {
            if (x.c >= grid.cells() || x.s >= grid.s || !seen.add(x.plus + " " + x.c + " " + x.s)) {
                return false;
            }
        }
        switch (l.kind) {
            case 'g': {
                int c = l.numbers.get(0);
                return c < grid.cells() && grid.given[c] >= 0 && seen.contains("true " + c + " " + grid.given[c]);
            }
            case 'r':
                return l.numbers.get(0) < grid.rules.size() && always(l, grid.rules.get(l.numbers.get(0)));
            case 'w': {
                int n = l.numbers.get(0), k = l.numbers.get(1);
                if (n >= k || k >= grid.rules.size()) {
                    return false;
                }
                Rule a = grid.rules.get(n), b = grid.rules.get(k);
                return cellsOf(a, b).size() <= 6 && always(l, a, b);
            }
            case 'u':
                return units(l, ahead);
            default: {
                if (l.literals.size() != grid.cells()) {
                    return false;
                }
                char[] f = new char[grid.cells()];
                for (Literal x : l.literals) {
                    if (x.plus || f[x.c] != 0) {
                        return false;
                    }
                    f[x.c] = (char) ('0' + x.s);
                }
                return fillings(grid).contains(new String(f));
            }
        }
    }

    String check(String proof) {
        List<Line> all = lines(proof);
        Set<String> told = new HashSet<>();
        for (int i = 0; i < all.size(); i++) {
            Line l = all.get(i);
            if (!right(l, all.subList(0, i))) {
                return "line " + i;
            }
            if (l.kind == 'b') {
                char[] f = new char[grid.cells()];
                for (Literal x : l.literals) {
                    f[x.c] = (char) ('0' + x.s);
                }
                told.add(new String(f));
            }
        }
        Line last = all.get(all.size() - 1);
        return last.kind != 'u' || !last.literals.isEmpty() ? "open" : "proof " + told.size();
    }

    // ---- givens ----

    String clash() {
        if (!fillings(grid).isEmpty()) {
            return "none";
        }
        Grid g = grid.copy();
        for (int c = 0; c < g.cells(); c++) {
            if (g.given[c] >= 0) {
                int was = g.given[c];
                g.given[c] = -1;
                if (!fillings(g).isEmpty()) {
                    g.given[c] = was;
                }
            }
        }
        StringBuilder b = new StringBuilder("clash");
        for (int c = 0; c < g.cells(); c++) {
            b.append(g.given[c] >= 0 ? " " + c : "");
        }
        return b.toString();
    }

    String least() {
        if (fillings(grid).size() != 1) {
            return "not one";
        }
        for (int c = 0; c < grid.cells(); c++) {
            if (grid.given[c] >= 0) {
                int was = grid.given[c];
                grid.given[c] = -1;
                if (fillings(grid).size() != 1) {
                    grid.given[c] = was;
                }
            }
        }
        playAnew();
        return "least " + state(1);
    }

    long r;

    int draw(int m) {
        r = r * 6364136223846793005L + 1442695040888963407L;
        return (int) ((r >>> 33) % m);
    }

    String make(int n, int k) {
        if (k > 1) {
            return "no kind";
        }
        Grid g = grid.copy();
        Arrays.fill(g.given, -1);
        List<String> all = fillings(g);
        if (all.isEmpty()) {
            return "none";
        }
        r = n;
        String a = all.get(draw(all.size()));
        for (int c = 0; c < g.cells(); c++) {
            g.given[c] = a.charAt(c) - '0';
        }
        int[] row = new int[g.cells()];
        for (int c = 0; c < row.length; c++) {
            row[c] = c;
        }
        for (int i = row.length - 1; i >= 1; i--) {
            int j = draw(i + 1);
            int t = row[i];
            row[i] = row[j];
            row[j] = t;
        }
        for (int c : row) {
            if (g.given[c] >= 0) {
                int[] was = g.given.clone();
                g.given[c] = -1;
                if (k == 1) {
                    g.given[g.cells() - 1 - c] = -1;
                }
                if (fillings(g).size() > 1) {
                    g.given = was;
                }
            }
        }
        grid = g;
        playAnew();
        return "made " + state(1);
    }

    // ---- variants ----

    static int maps(Grid g) {
        return g.w == g.h ? 8 : 4;
    }

    static List<int[]> renamings(Grid g) {
        List<int[]> rows = new ArrayList<>();
        boolean free = g.rules.stream().allMatch(x -> List.of("unlike", "alike", "count").contains(x.kind));
        for (int code = 0; code < 256; code++) {
            int[] row = {code >> 6 & 3, code >> 4 & 3, code >> 2 & 3, code & 3};
            int[] first = Arrays.copyOf(row, g.s);
            boolean rest = true;
            for (int i = g.s; i < 4; i++) {
                rest &= row[i] == 0;
            }
            boolean same = true;
            for (int i = 0; i < g.s; i++) {
                same &= first[i] == i;
            }
            if (rest && Arrays.stream(first).distinct().count() == g.s && Arrays.stream(first).max().getAsInt() == g.s - 1
                && (free || same)) {
                rows.add(first);
            }
        }
        return rows;
    }

    static int map(Grid g, int map, int c) {
        int x = c % g.w, y = c / g.w;
        if ((map & 1) != 0) {
            x = g.w - 1 - x;
        }
        if ((map & 2) != 0) {
            y = g.h - 1 - y;
        }
        if ((map & 4) != 0) {
            int t = x;
            x = y;
            y = t;
        }
        return x + g.w * y;
    }

    static Grid variant(Grid g, int map, int[] row) {
        Grid v = g.copy();
        v.rules.clear();
        for (Rule x : g.rules) {
            v.rules.add(new Rule(x.kind, x.n, Arrays.stream(x.cells).map(c -> map(g, map, c)).toArray()));
        }
        Arrays.fill(v.given, -1);
        for (int c = 0; c < g.cells(); c++) {
            if (g.given[c] >= 0) {
                v.given[map(g, map, c)] = row[g.given[c]];
            }
        }
        return v;
    }

    static String ordered(Grid g) {
        TreeSet<String> texts = new TreeSet<>();
        for (Rule x : g.rules) {
            int[] cells = x.cells.clone();
            if (List.of("unlike", "alike", "joined", "sum").contains(x.kind)) {
                Arrays.sort(cells);
            } else if (x.kind.equals("count")) {
                Arrays.sort(cells, 1, cells.length);
            }
            texts.add(new Rule(x.kind, x.n, cells).text());
        }
        Grid bare = g.copy();
        bare.rules.clear();
        String text = bare.text();
        StringBuilder b = new StringBuilder(text.substring(0, 9));
        for (String t : texts) {
            b.append(";").append(t);
        }
        return b + text.substring(9);
    }

    static String form(Grid g) {
        TreeSet<String> all = new TreeSet<>();
        for (int m = 0; m < maps(g); m++) {
            for (int[] row : renamings(g)) {
                all.add(ordered(variant(g, m, row)));
            }
        }
        return all.first();
    }

    String vary(int n) {
        List<int[]> rows = renamings(grid);
        grid = variant(grid, n % maps(grid), rows.get(n / maps(grid) % rows.size()));
        playAnew();
        return "ok";
    }

    String find() {
        if (!open) {
            return "shut";
        }
        StringBuilder b = new StringBuilder();
        for (int[] e : entries()) {
            if (form(gridOf(e)).equals(form(grid))) {
                b.append(nameOf(e)).append(" ");
            }
        }
        return b + ".";
    }

    // ---- covers ----

    String cover(int n) {
        if (n > 100) {
            return "no number";
        }
        List<List<Integer>> all = new ArrayList<>();
        for (int set = 0; set < 1 << grid.rules.size(); set++) {
            int[] times = new int[grid.cells()];
            List<Integer> row = new ArrayList<>();
            for (int i = 0; i < grid.rules.size(); i++) {
                if ((set >> i & 1) != 0) {
                    row.add(i);
                    for (int c : grid.rules.get(i).cells) {
                        times[c]++;
                    }
                }
            }
            if (Arrays.stream(times).allMatch(t -> t == 1)) {
                all.add(row);
            }
        }
        all.sort((a, b) -> {
            for (int i = 0; i < a.size() && i < b.size(); i++) {
                if (!a.get(i).equals(b.get(i))) {
                    return a.get(i) - b.get(i);
                }
            }
            return a.size() - b.size();
        });
        StringBuilder b = new StringBuilder();
        for (int i = 0; i < n && i < all.size(); i++) {
            List<String> parts = new ArrayList<>();
            all.get(i).forEach(x -> parts.add("" + x));
            b.append(String.join("+", parts)).append(" ");
        }
        return b + (all.size() <= n ? "all" : "more");
    }

    String barred() {
        for (int m = 2; m <= 3; m++) {
            int total = (int) Math.round(Math.pow(m, grid.cells()));
            for (int code = 0; code < total; code++) {
                int[] colour = new int[grid.cells()];
                int rest = code;
                for (int c = grid.cells() - 1; c >= 0; c--) {
                    colour[c] = rest % m;
                    rest /= m;
                }
                boolean good = Arrays.stream(colour).sum() % m != 0;
                for (Rule x : grid.rules) {
                    good &= Arrays.stream(x.cells).map(c -> colour[c]).sum() % m == 0;
                }
                if (good) {
                    StringBuilder b = new StringBuilder("barred " + m + " ");
                    for (int v : colour) {
                        b.append(v);
                    }
                    return b.toString();
                }
            }
        }
        return "open";
    }

    // ---- play ----

    String play(String[] w) {
        Person p = persons[present];
        switch (w[0]) {
            case "person": {
                int k = Integer.parseInt(w[1]);
                if (k > 2) {
                    return "no person";
                }
                present = k;
                return "ok";
            }
            case "put": case "mark": {
                int c = Integer.parseInt(w[1]);
                int s = w[2].equals("-") ? -1 : Integer.parseInt(w[2]);
                if (c >= grid.cells()) {
                    return "no cell";
                }
                if (grid.given[c] >= 0) {
                    return "given";
                }
                if (s >= grid.s) {
                    return "no symbol";
                }
                if (w[0].equals("mark")) {
                    if (p.marks.get(c).remove(s)) {
                        return "off";
                    }
                    p.marks.get(c).add(s);
                    return "on";
                }
                if (p.entries[c] == s) {
                    return "same";
                }
                if (p.steps.size() == 100) {
                    return "no room";
                }
                p.steps.add(new int[] {p.now, c, p.entries[c], s});
                p.now = p.steps.size() - 1;
                p.entries[c] = s;
                return "ok";
            }
            case "undo": {
                if (p.now < 0) {
                    return "no step";
                }
                int[] t = p.steps.get(p.now);
                p.entries[t[1]] = t[2];
                p.now = t[0];
                return "ok";
            }
            case "redo": {
                List<Integer> next = new ArrayList<>();
                for (int i = 0; i < p.steps.size(); i++) {
                    if (p.steps.get(i)[0] == p.now) {
                        next.add(i);
                    }
                }
                int k = Integer.parseInt(w[1]);
                if (k >= next.size()) {
                    return "no step";
                }
                p.now = next.get(k);
                int[] t = p.steps.get(p.now);
                p.entries[t[1]] = t[3];
                return "ok";
            }
            case "state": {
                StringBuilder b = new StringBuilder();
                for (int c = 0; c < grid.cells(); c++) {
                    int v = grid.given[c] >= 0 ? grid.given[c] : p.entries[c];
                    b.append(v < 0 ? "." : "" + v);
                }
                return b.toString();
            }
            case "marks": {
                int c = Integer.parseInt(w[1]);
                if (c >= grid.cells()) {
                    return "no cell";
                }
                StringBuilder b = new StringBuilder();
                p.marks.get(c).forEach(b::append);
                return b + ".";
            }
            default: {
                List<String> all = fillings(grid);
                if (all.size() != 1) {
                    return "not one";
                }
                int n = 0;
                for (int c = 0; c < grid.cells(); c++) {
                    n += p.entries[c] >= 0 && p.entries[c] != all.get(0).charAt(c) - '0' ? 1 : 0;
                }
                return "" + n;
            }
        }
    }

    // ---- the contest ----

    String contest(String[] w) {
        switch (w[0]) {
            case "contest":
                items.clear();
                return "ok";
            case "set": {
                if (!open) {
                    return "shut";
                }
                int[] e = entryOf(w[1]);
                if (e == null) {
                    return "no name";
                }
                if (items.stream().anyMatch(i -> i.name.equals(w[1]))) {
                    return "there";
                }
                if (items.size() == 6) {
                    return "no room";
                }
                Item item = new Item();
                item.name = w[1];
                item.grid = gridOf(e);
                item.points = Integer.parseInt(w[2]);
                items.add(item);
                return "ok";
            }
            case "submit": {
                int p = Integer.parseInt(w[1]);
                if (p > 2) {
                    return "no person";
                }
                Item item = items.stream().filter(i -> i.name.equals(w[2])).findFirst().orElse(null);
                if (item == null) {
                    return "no item";
                }
                if (item.right[p] >= 0) {
                    return "over";
                }
                if (w[4].length() != item.grid.cells() || w[4].chars().anyMatch(d -> d - '0' >= item.grid.s)) {
                    return "no filling";
                }
                if (fillings(item.grid).contains(w[4])) {
                    item.right[p] = Integer.parseInt(w[3]);
                    return "right";
                }
                item.wrong[p]++;
                return "wrong";
            }
            default: {
                List<int[]> rows = new ArrayList<>();
                for (int p = 0; p < 3; p++) {
                    int points = 0, time = 0;
                    for (Item i : items) {
                        if (i.right[p] >= 0) {
                            points += Math.max(0, i.points - i.wrong[p]);
                            time += i.right[p] + 20 * i.wrong[p];
                        }
                    }
                    rows.add(new int[] {p, points, time});
                }
                rows.sort((a, b) -> a[1] != b[1] ? b[1] - a[1] : a[2] != b[2] ? a[2] - b[2] : a[0] - b[0]);
                StringBuilder b = new StringBuilder();
                for (int[] x : rows) {
                    b.append(x[0]).append(" ").append(x[1]).append(" ").append(x[2]).append(";");
                }
                return b.toString();
            }
        }
    }

    // ---- the book ----

    /** {first page, pages} of each entry. */
    List<int[]> entries() {
        int[] root = pages[pages[0][0]];
        List<int[]> all = new ArrayList<>();
        for (int i = 0; i < root[0]; i++) {
            all.add(new int[] {root[1 + 2 * i], root[2 + 2 * i]});
        }
        return all;
    }

    /** Name and text of a chain, or null when it can't be. */
    String[] chain(int[] e) {
        if (e[0] < 3 || e[1] < 1 || e[0] + e[1] > 32) {
            return null;
        }
        StringBuilder b = new StringBuilder();
        for (int p = e[0]; p < e[0] + e[1]; p++) {
            for (int v : pages[p]) {
                b.append((char) v);
            }
        }
        int n = b.charAt(0);
        if (n < 1 || n > 8) {
            return null;
        }
        String name = b.substring(1, 1 + n);
        int t = b.charAt(1 + n) + 256 * b.charAt(2 + n);
        if (!name.matches("[a-z]+") || 3 + n + t > b.length()) {
            return null;
        }
        return new String[] {name, b.substring(3 + n, 3 + n + t)};
    }

    String nameOf(int[] e) {
        return chain(e)[0];
    }

    Grid gridOf(int[] e) {
        Grid g = new Grid();
        load(g, chain(e)[1]);
        return g;
    }

    int[] entryOf(String name) {
        for (int[] e : entries()) {
            if (nameOf(e).equals(name)) {
                return e;
            }
        }
        return null;
    }

    void write(int page, int i, int v) {
        log.add(new int[] {page, i, pages[page][i]});
        pages[page][i] = v;
    }

    void writeRoot(List<int[]> all) {
        int other = 3 - pages[0][0];
        int[] root = new int[32];
        root[0] = all.size();
        for (int i = 0; i < all.size(); i++) {
            root[1 + 2 * i] = all.get(i)[0];
            root[2 + 2 * i] = all.get(i)[1];
        }
        root[31] = Arrays.stream(root).sum() % 251;
        for (int i = 0; i < 32; i++) {
            write(other, i, root[i]);
        }
        write(0, 0, other);
    }

    List<int[]> entriesWithout(String name) {
        List<int[]> all = entries();
        for (int i = 0; i < all.size(); i++) {
            if (nameOf(all.get(i)).equals(name)) {
                all.remove(i);
                return all;
            }
        }
        return all;
    }

    String keep(String name, String text) {
        List<int[]> left = entriesWithout(name);
        String what = (char) name.length() + name + (char) (text.length() % 256) + (char) (text.length() / 256) + text;
        int need = (what.length() + 31) / 32;
        boolean[] used = new boolean[33];
        used[32] = true;
        for (int[] e : entries()) {
            for (int i = 0; i < e[1]; i++) {
                used[e[0] + i] = true;
            }
        }
        int at = -1;
        for (int p = 31; p >= 3; p--) {
            boolean free = p + need <= 32;
            for (int i = 0; i < need && free; i++) {
                free = !used[p + i];
            }
            at = free ? p : at;
        }
        if (left.size() >= 15 || at < 0) {
            return "no room";
        }
        log.clear();
        for (int i = 0; i < 32 * need; i++) {
            write(at + i / 32, i % 32, i < what.length() ? what.charAt(i) : 0);
        }
        left.add(new int[] {at, need});
        writeRoot(left);
        return "ok";
    }

    static int sum(String s) {
        int v = 7;
        for (char c : s.toCharArray()) {
            v = (v * 31 + c) % 65521;
        }
        return v;
    }

    String book(String[] w, String rest) {
        switch (w[0]) {
            case "keep":
                return keep(w[1], grid.text());
            case "open": {
                int[] e = entryOf(w[1]);
                return e == null ? "no name" : become(chain(e)[1]);
            }
            case "remove": {
                if (entryOf(w[1]) == null) {
                    return "no name";
                }
                log.clear();
                writeRoot(entriesWithout(w[1]));
                return "ok";
            }
            case "list": {
                StringBuilder b = new StringBuilder();
                entries().forEach(e -> b.append(nameOf(e)).append(" "));
                return b + ".";
            }
            case "export": {
                StringBuilder b = new StringBuilder("book " + entries().size());
                entries().forEach(e -> b.append("/").append(nameOf(e)).append(" ").append(gridOf(e).text()));
                b.append("/");
                return b.toString() + sum(b.toString());
            }
            default:
                return imported(rest);
        }
    }

    String imported(String b) {
        String[] parts = b.split("/");
        int n = Integer.parseInt(parts[0].substring(5));
        int m = Integer.parseInt(parts[parts.length - 1]);
        if (n != parts.length - 2) {
            return "no count";
        }
        if (m != sum(b.substring(0, b.lastIndexOf('/') + 1))) {
            return "no check";
        }
        for (int i = 1; i < parts.length - 1; i++) {
            String refused = load(new Grid(), parts[i].substring(parts[i].indexOf(' ') + 1));
            if (!refused.isEmpty()) {
                return refused;
            }
        }
        for (int i = 1; i < parts.length - 1; i++) {
            Grid g = new Grid();
            load(g, parts[i].substring(parts[i].indexOf(' ') + 1));
            if (!keep(parts[i].substring(0, parts[i].indexOf(' ')), g.text()).equals("ok")) {
                return "no room";
            }
        }
        return "ok";
    }

    String cut(int n) {
        if (!open || log.isEmpty() || log.size() < n) {
            return "no cut";
        }
        for (int i = log.size() - 1; i >= n; i--) {
            pages[log.get(i)[0]][log.get(i)[1]] = log.get(i)[2];
        }
        open = false;
        return "ok";
    }

    String mend() {
        open = false;
        log.clear();
        int turn = pages[0][0];
        if (turn != 1 && turn != 2) {
            return "torn";
        }
        int[] root = pages[turn];
        int total = 0;
        for (int i = 0; i < 31; i++) {
            total += root[i];
        }
        if (total % 251 != root[31] || root[0] > 15) {
            return "torn";
        }
        for (int[] e : entries()) {
            String[] c = chain(e);
            if (c == null || !JUST_TEXT.matcher(c[1]).matches() || !load(new Grid(), c[1]).isEmpty()) {
                return "torn";
            }
        }
        open = true;
        return "ok";
    }
}
