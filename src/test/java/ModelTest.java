import java.util.ArrayList;
import java.util.List;
import java.util.Map;
import java.util.Random;
import java.util.TreeMap;

/** Runs of random calls, the same ones on a PuzzleHouse and on the Model; all answers must be the same. */
public final class ModelTest {
    private final Random random;
    private final PuzzleHouse house = new PuzzleHouse();
    private final Model model = new Model();
    private final List<String> told = new ArrayList<>();
    /** 0: of everything something; 1: reasons; 2: play; 3: the contest; 4: the book. */
    private final int theme;
    private String oldProof = "u;";
    private String oldBook = "book 0/0";
    private final List<int[]> undone = new ArrayList<>();
    private static int wrong = 0;
    private static final Map<String, Integer> SEEN = new TreeMap<>();

    private ModelTest(long seed) {
        random = new Random(seed);
        theme = (int) (seed % 5);
    }

    public static void main(String[] args) throws InterruptedException {
        int runs = args.length > 0 ? Integer.parseInt(args[0]) : 1500;
        long first = args.length > 1 ? Long.parseLong(args[1]) : 1;
        // The patterns of the Model go deep on long proofs.
        Thread thread = new Thread(null, () -> {
            for (int i = 0; i < runs && wrong < 5; i++) {
                new ModelTest(first + i).run();
            }
        }, "runs", 1L << 29);
        thread.start();
        thread.join();
        if (args.length > 2) {
            SEEN.forEach((k, v) -> System.out.println(v + "\t" + k));
        }
        System.out.println(wrong == 0 ? runs + " runs are as the model has them" : wrong + " runs are not");
        System.exit(wrong == 0 ? 0 : 1);
    }

    private int below(int n) {
        return random.nextInt(n);
    }

    private boolean chance(int percent) {
        return below(100) < percent;
    }

    private String one(String... of) {
        return of[below(of.length)];
    }

    // ---- one run ----

    private void run() {
        int calls = 0;
        int requests = theme == 2 && chance(20) ? 240 : theme >= 2 ? 40 + below(60) : 10 + below(50);
        for (int i = 0; i < requests && calls < 500; i++) {
            String request = request();
            if (chance(4)) {
                request = spoil(request);
            }
            int[] lengths = say(request);
            calls += (request.length() + 19) / 20 + 1;
            if (lengths[0] != lengths[1] || !answer(lengths[0]).equals(model.latest) || !sameState()) {
                fail(request);
                return;
            }
            note(request, model.latest);
            if (request.equals("export")) {
                oldBook = model.latest;
            }
            if (request.equals("prove") || request.equals("teach")) {
                if (model.latest.endsWith(";")) {
                    oldProof = model.latest;
                }
                if (chance(70)) {
                    int a = house.checkAnswer();
                    told.add("checkAnswer");
                    if (a != model.checkAnswer() || !answer(a).equals(model.latest)) {
                        fail("checkAnswer");
                        return;
                    }
                    note("checkAnswer", model.latest);
                }
            } else if (chance(2)) {
                int a = house.checkAnswer();
                told.add("checkAnswer");
                if (a != model.checkAnswer() || !answer(a).equals(model.latest)) {
                    fail("checkAnswer");
                    return;
                }
            }
            if (theme == 0 && chance(5) || theme == 4 && chance(12)) {
                pokes();
            }
            if (!model.open && chance(60)) {
                String was = model.tape;
                say("mend");
                if (!answer(model.latest.length()).equals(model.latest) || !was.isEmpty()) {
                    fail("mend");
                    return;
                }
                note("mend", model.latest);
                for (int k = undone.size() - 1; k >= 0 && !model.open && chance(95); k--) {
                    poke(undone.get(k)[0], undone.get(k)[1], undone.get(k)[2]);
                }
                undone.clear();
            }
        }
    }

    private int[] say(String request) {
        told.add(request);
        for (int i = 0; i < request.length(); i += 20) {
            int[] five = Talk.numbers(request, i);
            int a = house.feed(five[0], five[1], five[2], five[3], five[4]);
            int b = model.feed(five);
            if (a != b) {
                return new int[] {a, b};
            }
        }
        return new int[] {house.ask(request.length()), model.ask(request.length())};
    }

    private String answer(int length) {
        return house.answer(length) != -1 || house.answer(-1) != -1 ? "too long" : Talk.read(length, house::answer);
    }

    private boolean sameState() {
        for (int i = -1; i <= 10; i++) {
            if (house.state(i) != model.state(i)) {
                return false;
            }
        }
        for (int p = -1; p <= 32; p++) {
            for (int i = -1; i <= 32; i++) {
                if (house.byteAt(p, i) != model.byteAt(p, i)) {
                    return false;
                }
            }
        }
        return true;
    }

    private void fail(String request) {
        wrong++;
        System.out.println("run: " + told);
        System.out.println("  " + request + " answered " + Talk.read(house.state(7), house::answer));
        System.out.println("  due is " + model.latest);
        for (int i = 0; i <= 9; i++) {
            System.out.print(" " + house.state(i) + "/" + model.state(i));
        }
        System.out.println();
    }

    private void note(String request, String answer) {
        String a = answer.replaceAll("[0-9]+", "#").replaceAll(" .*", "");
        a = answer.startsWith("proof") || answer.startsWith("line") ? answer.split(" ")[0] : a.length() > 12 ? "text" : a;
        if (a.equals("bad")) {
            SEEN.merge("bad", 1, Integer::sum);
            return;
        }
        if (request.startsWith("state") || request.startsWith("list") || request.startsWith("find")) {
            a = a.equals("shut") ? a : "some";
        }
        if (a.equals("no")) {
            a = answer;
        }
        SEEN.merge(request.split(" ")[0] + " -> " + a, 1, Integer::sum);
    }

    // ---- requests ----

    private String spoil(String r) {
        StringBuilder b = new StringBuilder(r);
        int at = below(r.length() + 1);
        switch (below(4)) {
            case 0: b.setLength(at); break;
            case 1: b.insert(at, one(" ", "0", "1", "-", "a", ";", "/", ".", "+", "\u00ff", "\0")); break;
            case 2:
                if (at < r.length()) {
                    b.deleteCharAt(at);
                }
                break;
            default:
                if (at < r.length()) {
                    b.setCharAt(at, one(" ", "0", "9", "-", "s", ";", "/", ".", "+", "\u0080").charAt(0));
                }
                break;
        }
        return b.toString();
    }

    private String number() {
        return chance(90) ? "" + below(7) : one("7", "9", "10", "12", "99", "100", "999");
    }

    private String kind() {
        String k = one("unlike", "unlike", "rise", "joined", "alike", "sum", "count", "apart", "seen", "sum");
        switch (k) {
            case "sum": return k + " " + (chance(90) ? "" + below(7) : number());
            case "count": case "seen": return k + " " + (chance(90) ? "" + (1 + below(3)) : number());
            case "apart": return k + " " + (chance(90) ? "" + (1 + below(2)) : number());
            default: return k;
        }
    }

    private String cell(int cells) {
        return chance(97) ? "" + below(cells) : number();
    }

    private String rule(int cells) {
        StringBuilder b = new StringBuilder("rule " + kind());
        int many = chance(3) ? 5 : Math.min(cells, chance(10) ? 1 : 2 + below(3));
        List<Integer> row = new ArrayList<>();
        for (int i = 0; i < many; i++) {
            int c = below(cells);
            while (row.contains(c) && row.size() < cells && chance(98)) {
                c = below(cells);
            }
            row.add(c);
            b.append(" ").append(chance(99) ? "" + c : number());
        }
        return b.toString();
    }

    private String each() {
        return "each " + one("row", "column", "pair") + " " + kind();
    }

    private int size() {
        return chance(2) ? below(10) : chance(70) ? 2 + below(2) : 1 + below(3);
    }

    private String text() {
        int w = size();
        int h = size();
        int s = chance(2) ? below(10) : w * h >= 8 ? (chance(4) ? 4 : 2 + below(2)) : 2 + below(3);
        int cells = Math.max(1, w * h);
        StringBuilder b = new StringBuilder("new " + w + " " + h + " " + s);
        if (chance(30)) {
            b.append(";each ").append(one("row unlike", "column unlike", "row " + kind(), "pair apart 1"));
        }
        if (chance(15)) {
            b.append(";").append(each());
        }
        int rules = below(below(8) + 2);
        for (int i = 0; i < rules; i++) {
            b.append(";").append(rule(cells));
        }
        int gives = below(chance(30) ? cells + 1 : 3);
        for (int i = 0; i < gives; i++) {
            b.append(";give ").append(cell(cells)).append(" ").append(chance(99) ? below(Math.max(1, Math.min(s, 9))) : 9);
        }
        return b.toString();
    }

    /** Puzzles of many rules, of which no one says much, with an answer or two. */
    private String hard() {
        int w = 2 + below(2);
        int h = 2 + below(2);
        int s = 3 + below(2);
        int[] answer = new int[w * h];
        for (int c = 0; c < answer.length; c++) {
            answer[c] = below(s);
        }
        StringBuilder b = new StringBuilder("new " + w + " " + h + " " + s);
        Model.Grid g = new Model.Grid();
        Model.load(g, b.toString());
        int rules = 6 + below(7);
        for (int i = 0; i < 100 && rules > 0; i++) {
            String r = rule(w * h);
            Model.Grid trial = g.copy();
            if (Model.tell(trial, r).startsWith("rule ") && Model.meets(g, trial.rules.get(trial.rules.size() - 1), answer, true)
                && trial.rules.get(trial.rules.size() - 1).cells.length > 1 + below(2)) {
                b.append(";").append(r);
                g = trial;
                rules--;
            }
        }
        if (chance(50)) {
            int c = below(answer.length);
            b.append(";give ").append(c).append(" ").append(chance(80) ? answer[c] : below(s));
        }
        return b.toString();
    }

    private String name() {
        if (theme == 3) {
            return one("a", "b", "c", "dd", "e", "ff", "g", "hh");
        }
        return chance(5) ? "abcdefgh" : one("a", "b", "c", "dd", "e", "ff", "g", "hh", "i", "j", "k", "l", "m", "n", "o", "p", "q");
    }

    private String proof() {
        String[] lines = oldProof.split(";");
        List<String> row = new ArrayList<>(List.of(lines));
        int many = below(3);
        for (int i = 0; i < many && !row.isEmpty(); i++) {
            int at = below(row.size());
            switch (below(5)) {
                case 0: row.remove(at); break;
                case 1: row.add(at, one("u", "g0 +0.0", "r0", "b", "w0 1", "w1 0", line(), line(), line())); break;
                case 2: row.set(at, row.get(at) + " " + literal()); break;
                case 3: {
                    String l = row.get(at);
                    int last = l.lastIndexOf(" ");
                    if (last > 0 && (l.charAt(last + 1) == '+' || l.charAt(last + 1) == '-')) {
                        row.set(at, l.substring(0, last));
                    }
                    break;
                }
                default: row.set(at, line()); break;
            }
        }
        if (row.isEmpty() || chance(10)) {
            row.clear();
            for (int i = 0; i < 1 + below(4); i++) {
                row.add(line());
            }
        }
        return String.join(";", row) + ";";
    }

    private String literal() {
        int cells = model.grid.cells();
        return one("+", "-") + (chance(98) ? below(cells) : 12) + "." + (chance(98) ? below(model.grid.s) : 4);
    }

    private String line() {
        int rules = Math.max(1, model.grid.rules.size());
        StringBuilder b = new StringBuilder(
            one("g" + below(model.grid.cells()), "r" + below(rules), "w" + below(rules) + " " + below(rules), "u", "b"));
        int many = below(4);
        for (int i = 0; i < many; i++) {
            b.append(" ").append(literal());
        }
        if (chance(20)) {
            List<String> all = Model.fillings(model.grid);
            if (!all.isEmpty()) {
                String f = all.get(below(all.size()));
                b = new StringBuilder("b");
                for (int c = 0; c < f.length(); c++) {
                    b.append(" -").append(c).append(".").append(f.charAt(c));
                }
            }
        }
        return b.toString();
    }

    private String book() {
        if (chance(40)) {
            return oldBook;
        }
        int many = chance(10) ? 10 + below(10) : below(5);
        StringBuilder b = new StringBuilder("book " + (chance(95) ? many : number()));
        for (int i = 0; i < many; i++) {
            b.append("/").append(name()).append(" ").append(many > 6 && chance(98) ? "new 2 2 2;give 0 1" : text());
        }
        b.append("/");
        String s = b.toString();
        s += chance(95) ? Model.sum(s) : below(70000);
        return s.length() > 3000 ? "book 0/0" : s;
    }

    private String request() {
        int cells = model.grid.cells();
        int pickOne = below(100);
        if (theme > 1 && chance(80)) {
            pickOne = theme == 2 ? 70 : theme == 3 ? 82 : 90;
        }
        if (theme == 3 && chance(20)) {
            return one("keep a", "keep b", "keep c", "keep dd");
        }
        if (theme == 1 && chance(50)) {
            pickOne = 50;
        }
        if (pickOne < 9 || told.isEmpty()) {
            return "load " + (theme == 1 && chance(60) ? hard() : text());
        }
        if (pickOne < 35) {
            switch (below(12)) {
                case 0: return "new " + size() + " " + size() + " " + size();
                case 1: case 2: case 3: return rule(cells);
                case 4: return chance(50) ? each() : "drop";
                case 5: case 6: return "give " + cell(cells) + " " + (chance(90) ? "" + below(model.grid.s) : one("-", "3", "9"));
                case 7: return "text";
                case 8: return "vary " + (chance(90) ? below(200) : number());
                case 9: return "form";
                case 10: return "make " + below(1000) + " " + (chance(95) ? below(2) : 2);
                default: return "least";
            }
        }
        if (pickOne < 65) {
            return one("prove", "teach", "grade", "hint", "step", "solve", "prove", "teach", "clash", "many", "barred",
                "answers " + one("0", "1", "3", "100", "101", "20"), "pick " + one("0", "1", "" + below(30), "" + below(999999)),
                "cover " + one("0", "1", "2", "100", "101"), "check " + proof(), "check " + proof(), "clash", "wrong", "step",
                "solve", "hint", "solve");
        }
        if (pickOne < 80) {
            return one("person " + (chance(90) ? below(3) : below(10)), "put " + put(), "put " + put(), "put " + put(), "put " + put(),
                "undo", "undo", "redo " + (chance(80) ? 0 : below(4)), "redo " + below(3), "state", "mark " + mark(), "mark " + mark(),
                "marks " + cell(cells), "wrong", "hint", "step");
        }
        if (pickOne < 87) {
            return one("contest", "set " + name() + " " + below(40), "set " + name() + " " + number(), "set a 7", "set b 3", "table",
                "submit " + submit(), "submit " + submit(), "submit " + submit(), "table");
        }
        return one("keep " + name(), "keep " + name(), "keep " + name(), "keep a", "keep b", "open " + name(), "open a", "remove " + name(), "list", "list",
            "cut " + (chance(50) ? below(70) : below(400)), "mend", "export", "export", "import " + book(), "import " + book(), "find", "find");
    }

    private String put() {
        int cells = model.grid.cells();
        return cell(cells) + " " + (chance(85) ? "" + below(model.grid.s) : one("-", "-", "9"));
    }

    private String mark() {
        return cell(model.grid.cells()) + " " + (chance(95) ? below(model.grid.s) : 9);
    }

    private String submit() {
        String n = name();
        String digits = "" + below(10);
        if (!model.items.isEmpty()) {
            Model.Item item = model.items.get(below(model.items.size()));
            n = chance(95) ? item.name : n;
            List<String> all = Model.fillings(item.grid);
            StringBuilder b = new StringBuilder();
            for (int i = 0; i < item.grid.cells(); i++) {
                b.append(below(item.grid.s));
            }
            digits = chance(50) && !all.isEmpty() ? all.get(below(all.size())) : chance(90) ? b.toString() : b + "0";
        }
        return (chance(95) ? below(3) : 3) + " " + n + " " + number() + " " + digits;
    }

    // ---- the book's bytes ----

    private void poke(int page, int i, int mask) {
        told.add("poke " + page + " " + i + " " + mask);
        boolean is = model.poke(page, i, mask);
        if (house.poke(page, i, mask) != is) {
            fail("poke");
        }
        if (is) {
            undone.add(new int[] {page, i, mask});
        }
    }

    private void setByte(int page, int i, int value) {
        int is = model.byteAt(page, i);
        if (is >= 0 && is != value) {
            poke(page, i, is ^ value);
        }
    }

    private void pokes() {
        int turn = model.pages[0][0];
        switch (below(6)) {
            case 0:
                poke(below(34) - 1, below(34) - 1, below(258) - 1);
                break;
            case 1:
                poke(below(32), below(32), 1 + below(255));
                break;
            case 2:
                setByte(0, 0, 1 + below(3));
                break;
            default:
                if (turn == 1 || turn == 2) {
                    int[] root = model.pages[turn];
                    int entries = Math.min(root[0], 15);
                    switch (below(4)) {
                        case 0:
                            setByte(turn, 0, chance(80) ? below(entries + 1) : below(20));
                            break;
                        case 1:
                            // One entry more, of the same pages as another one.
                            if (entries > 0 && entries < 15) {
                                int from = below(entries);
                                setByte(turn, 1 + 2 * entries, root[1 + 2 * from]);
                                setByte(turn, 2 + 2 * entries, root[2 + 2 * from] + (chance(30) ? 1 : 0));
                                setByte(turn, 0, entries + 1);
                            }
                            break;
                        case 2:
                            setByte(turn, 1 + below(30), below(33));
                            break;
                        default:
                            if (entries > 0) {
                                int e = below(entries);
                                int page = Math.min(31, root[1 + 2 * e]);
                                setByte(page, below(20), one("a", "b", "1", "2", "3", ";", "\1", "\3", "\0").charAt(0));
                            }
                            break;
                    }
                    int sum = 0;
                    for (int i = 0; i < 31; i++) {
                        sum += root[i];
                    }
                    if (chance(90)) {
                        setByte(turn, 31, sum % 251);
                    }
                }
                break;
        }
    }
}
