import java.util.ArrayList;
import java.util.Arrays;
import java.util.Collections;
import java.util.List;
import java.util.Random;

/**
 * What the document's sentences mean for one another, on random puzzles: a proof is one by the checker, a step takes
 * what no answer has, a variant has the form of its puzzle, a book that was cut is as before or as behind. No second
 * model is asked, so that a misreading shared with Model could be seen here.
 */
public final class RelationsTest extends Checks {
    private final Random random;
    private final int width;
    private final int height;
    private final int cells;
    private final int symbols;
    private final String text;

    private RelationsTest(long seed) {
        random = new Random(seed);
        width = 1 + random.nextInt(3);
        height = 1 + random.nextInt(3);
        cells = width * height;
        symbols = 1 + random.nextInt(4);
        text = puzzle();
    }

    public static void main(String[] args) {
        int runs = args.length > 0 ? Integer.parseInt(args[0]) : 400;
        long first = args.length > 1 ? Long.parseLong(args[1]) : 1;
        for (int i = 0; i < runs; i++) {
            new RelationsTest(first + i).all();
        }
        end();
    }

    private void all() {
        answers();
        proofs();
        steps();
        givens();
        variants();
        covers();
        play();
        contest();
        book();
        cuts();
    }

    // ---- random puzzles ----

    private String kind() {
        String[] kinds = {"unlike", "rise", "joined", "alike", "sum ", "count ", "apart ", "seen "};
        String kind = kinds[random.nextInt(kinds.length)];
        return kind.endsWith(" ") ? kind + random.nextInt(4) : kind;
    }

    private String puzzle() {
        StringBuilder b = new StringBuilder("new " + width + " " + height + " " + symbols);
        int rules = random.nextInt(8);
        String one = random.nextInt(3) == 0 ? new String[] {"unlike", "alike", "count 2"}[random.nextInt(3)] : "";
        for (int i = 0; i < rules; i++) {
            b.append(";rule ").append(one.isEmpty() ? kind() : one);
            List<Integer> all = new ArrayList<>();
            for (int c = 0; c < cells; c++) {
                all.add(c);
            }
            Collections.shuffle(all, random);
            for (int k = 0; k < Math.min(cells, 1 + random.nextInt(4)); k++) {
                b.append(' ').append(all.get(k));
            }
        }
        for (int c = 0; c < cells; c++) {
            if (random.nextInt(4) == 0) {
                b.append(";give ").append(c).append(' ').append(random.nextInt(symbols));
            }
        }
        return b.toString();
    }

    private static String say(PuzzleHouse house, String request) {
        return Talk.say(house, request);
    }

    private static int many(PuzzleHouse house) {
        return Integer.parseInt(say(house, "many"));
    }

    /** How many answers there are with some symbols ("." for none) told as givens, too. */
    private int manyWith(String state) {
        PuzzleHouse house = loaded(text);
        for (int c = 0; c < cells; c++) {
            if (state.charAt(c) != '.') {
                say(house, "give " + c + " " + state.charAt(c));
            }
        }
        return many(house);
    }

    private static int[] numbers(String answer) {
        return Arrays.stream(answer.split(" ")).skip(1).mapToInt(Integer::parseInt).toArray();
    }

    // ---- relations ----

    private void answers() {
        part("answers, many, pick of " + text);
        PuzzleHouse house = loaded(text);
        due("text", say(house, "text"), text);
        int many = many(house);
        String[] told = say(house, "answers 100").split(" ");
        due("the last word", told[told.length - 1], many > 100 ? "more" : "all");
        due("how many are told", told.length - 1, Math.min(many, 100));
        for (int i = 0; i < told.length - 1; i++) {
            due("pick " + i, say(house, "pick " + i), told[i]);
            so(i == 0 || told[i - 1].compareTo(told[i]) < 0, "answers rise");
            due("answer " + i + " as givens", manyWith(told[i]), 1);
        }
        so(many == 0 || say(house, "pick " + (many - 1)).length() == cells, "there is a last answer");
        due("pick behind the last one", say(house, "pick " + many), "none");
        due("clash without an answer alone", say(house, "clash").equals("none"), many > 0);
        int sum = 0;
        for (int s = 0; s < symbols; s++) {
            PuzzleHouse one = loaded(text);
            if (say(one, "text").contains(";give 0 ")) {
                sum = many;
                break;
            }
            say(one, "give 0 " + s);
            sum += many(one);
        }
        due("answers by the symbol of cell 0", sum, many);
    }

    private void proofs() {
        part("prove, teach, grade of " + text);
        PuzzleHouse house = loaded(text);
        String proof = say(house, "prove");
        if (!proof.equals("long")) {
            due("checkAnswer", Talk.checkAnswer(house), "proof " + many(house));
            String grade = say(house, "grade");
            int nodes = 0;
            int choices = 0;
            for (String line : proof.split(";")) {
                nodes += line.startsWith("u") ? 1 : 0;
                choices = line.startsWith("u") ? Math.max(choices, line.split(" ").length - 1) : choices;
            }
            due("nodes and most choices", grade.substring(grade.indexOf(' ') + 1), nodes + " " + choices);
        }
        String lesson = say(house, "teach");
        String verdict = Talk.checkAnswer(house);
        String end = say(house, "solve").split(" ")[0];
        if (lesson.equals(".") || lesson.equals("long")) {
            due("checkAnswer", verdict, "bad 6");
        } else {
            due("checkAnswer", verdict, end.equals("solved") ? "proof 1" : end.equals("broken") ? "proof 0" : "open");
        }
        if (!end.equals("stuck")) {
            due("many", many(house), end.equals("solved") ? 1 : 0);
        }
    }

    /** Steps are taken one by one by telling a person's entries; what they take no answer has. */
    private void steps() {
        part("hint, step, solve of " + text);
        PuzzleHouse house = loaded(text);
        for (int i = 0; i < cells; i++) {
            String state = say(house, "state");
            String hint = say(house, "hint");
            String step = say(house, "step");
            int there = manyWith(state);
            if (hint.startsWith("hint ")) {
                int[] n = numbers(hint);
                due(hint + " at " + state, manyWith(with(state, n[0], n[1])), there);
                so(step.startsWith("one "), "behind a hint there is a step by one rule");
            }
            so(!hint.equals("can't") || there == 0, "no answer where a hint can't be");
            if (step.indexOf(' ') > 0) {
                int[] n = numbers(step);
                so(state.charAt(n[0]) != '.' && there == 0 || manyWith(with(state, n[0], n[1])) == 0, step + " at " + state);
            } else {
                due("solve at " + state, say(house, "solve"), step + " 0 0 0");
            }
            int c = random.nextInt(cells);
            say(house, "put " + c + " " + random.nextInt(symbols));
        }
    }

    private static String with(String state, int c, int s) {
        return state.substring(0, c) + s + state.substring(c + 1);
    }

    private void givens() {
        part("clash, least, make of " + text);
        PuzzleHouse house = loaded(text);
        String clash = say(house, "clash");
        if (!clash.equals("none")) {
            int[] left = numbers(clash);
            for (int without = -1; without < left.length; without++) {
                PuzzleHouse some = loaded(text);
                for (int c = 0; c < cells; c++) {
                    int given = c;
                    int gone = without < 0 ? -1 : left[without];
                    if (c == gone || Arrays.stream(left).noneMatch(x -> x == given)) {
                        say(some, "give " + c + " -");
                    }
                }
                due("no answer with those that clash alone", many(some) == 0, without < 0);
            }
        }
        if (say(house, "least").startsWith("least")) {
            due("many", many(house), 1);
            eachGivenMatters(house);
        }
        String made = say(house, "make " + random.nextInt(1000) + " 0");
        if (made.startsWith("made")) {
            due(made, house.state(1), numbers(made)[0]);
            due("many", many(house), 1);
            eachGivenMatters(house);
        }
        String even = say(house, "make " + random.nextInt(1000) + " 1");
        if (even.startsWith("made")) {
            due("many", many(house), 1);
            String state = say(house, "state");
            for (int c = 0; c < cells; c++) {
                due("givens stand across", state.charAt(c) == '.', state.charAt(cells - 1 - c) == '.');
            }
        }
    }

    private void eachGivenMatters(PuzzleHouse house) {
        String state = say(house, "state");
        for (int c = 0; c < cells; c++) {
            if (state.charAt(c) != '.') {
                say(house, "give " + c + " -");
                so(many(house) > 1, "given " + c + " can't be left out");
                say(house, "give " + c + " " + state.charAt(c));
            }
        }
    }

    private void variants() {
        part("form, vary, find of " + text);
        PuzzleHouse house = loaded(text);
        String form = say(house, "form");
        int many = many(house);
        run(house, "keep a", "ok");
        for (int i = 0; i < 4; i++) {
            run(house, "vary " + random.nextInt(1000), "ok", "form", form, "find", "a .", "many", "" + many);
        }
        run(house, "vary 0", "ok", "load " + form, "ok", "form", form, "find", "a .");
        if (!text.contains(";give")) {
            due("answers stay as many", many(house), many);
        }
        PuzzleHouse same = loaded(text);
        run(same, "vary 0", "ok", "text", text);
    }

    private void covers() {
        part("cover, barred of " + text);
        PuzzleHouse house = loaded(text);
        String barred = say(house, "barred");
        String covers = say(house, "cover 100");
        so(barred.equals("open") || covers.equals("all"), "no cover where colours bar it");
        String[] rows = covers.split(" ");
        String[] parts = text.split(";");
        for (int i = 0; i < rows.length - 1; i++) {
            int seen = 0;
            for (String r : rows[i].split("\\+")) {
                String[] words = parts[1 + Integer.parseInt(r)].split(" ");
                boolean counted = List.of("sum", "count", "apart", "seen").contains(words[1]);
                for (int k = counted ? 3 : 2; k < words.length; k++) {
                    so((seen >> Integer.parseInt(words[k]) & 1) == 0, "no cell twice in " + rows[i]);
                    seen |= 1 << Integer.parseInt(words[k]);
                }
            }
            due("the cells of " + rows[i], seen, (1 << cells) - 1);
        }
    }

    private void play() {
        part("put, undo, redo of " + text);
        PuzzleHouse house = loaded(text);
        List<String> seen = new ArrayList<>();
        seen.add(say(house, "state"));
        for (int i = 0; i < 20; i++) {
            if (say(house, "put " + random.nextInt(cells) + " " + (random.nextInt(4) == 0 ? "-" : "" + random.nextInt(symbols))).equals("ok")) {
                seen.add(say(house, "state"));
            }
        }
        for (int i = seen.size() - 2; i >= 0; i--) {
            run(house, "undo", "ok", "state", seen.get(i));
        }
        run(house, "undo", "no step");
        for (int i = 1; i < seen.size(); i++) {
            run(house, "redo 0", "ok", "state", seen.get(i));
        }
        run(house, "redo 0", "no step");
        due("steps back", house.state(4), seen.size() - 1);
        if (many(house) == 1) {
            String right = say(house, "pick 0");
            String state = say(house, "state");
            int wrong = 0;
            for (int c = 0; c < cells; c++) {
                wrong += state.charAt(c) != '.' && state.charAt(c) != right.charAt(c) ? 1 : 0;
            }
            run(house, "wrong", "" + wrong);
        }
    }

    private void contest() {
        part("set, submit, table of " + text);
        PuzzleHouse house = loaded(text);
        run(house, "keep a", "ok", "set a 99", "ok", "new 1 1 1", "ok");
        int wrong = 0;
        for (int i = 0; i < 12; i++) {
            StringBuilder filling = new StringBuilder();
            for (int c = 0; c < cells; c++) {
                filling.append(random.nextInt(symbols));
            }
            PuzzleHouse other = loaded(text);
            String given = say(other, "state");
            boolean right = manyWith(filling.toString()) == 1;
            for (int c = 0; c < cells; c++) {
                right = right && (given.charAt(c) == '.' || given.charAt(c) == filling.charAt(c));
            }
            run(house, "submit 1 a 7 " + filling, right ? "right" : "wrong");
            if (right) {
                run(house, "table", "1 " + (99 - wrong) + " " + (7 + 20 * wrong) + ";0 0 0;2 0 0;", "submit 1 a 8 " + filling, "over");
                return;
            }
            wrong++;
        }
        run(house, "table", "0 0 0;1 0 0;2 0 0;");
    }

    private void book() {
        part("keep, open, export, import of " + text);
        PuzzleHouse house = loaded(text);
        run(house, "keep b", "ok", "new 1 1 1", "ok", "keep a", "ok", "open b", "ok", "text", text, "list", "b a .");
        String export = say(house, "export");
        PuzzleHouse other = new PuzzleHouse();
        run(other, "import " + export, "ok", "export", export, "mend", "ok", "export", export, "open b", "ok", "text", text);
        run(other, "remove b", "ok", "list", "a .", "keep b", "ok", "list", "a b .", "mend", "ok", "list", "a b .");
    }

    /** However much of what was written stays, the book is as before until THE TURN is written. */
    private void cuts() {
        part("cut of " + text);
        int bytes = 32 * ((1 + 3 + text.length() + 31) / 32) + 33;
        for (int i = 0; i < 3; i++) {
            int stay = i == 0 ? bytes : i == 1 ? bytes - 1 : random.nextInt(bytes);
            PuzzleHouse house = new PuzzleHouse();
            run(house, "keep a", "ok", "load " + text, "ok", "keep b", "ok", "new 1 1 1", "ok", "keep b", "ok", "load " + text, "ok", "keep b", "ok");
            due("cut " + (bytes + 1), say(house, "cut " + (bytes + 1)), "no cut");
            run(house, "cut " + stay, "ok", "list", "shut", "mend", "ok", "list", "a b .", "open b", "ok");
            due("text of b", say(house, "text"), stay == bytes ? text : "new 1 1 1");
        }
    }
}
