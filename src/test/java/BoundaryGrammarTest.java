/** Boundary cases of THE GRAMMAR: where a request may end, and which byte is the first wrong one. */
public final class BoundaryGrammarTest extends Boundary {
    /** Right requests, one of each form at least; "|" stands where a right request ends ahead of the whole one's end. */
    private static final String[] RIGHT = {
        "new 3 2 4", "new 0 9 5", "drop", "text", "many", "prove", "grade", "hint", "step", "solve", "teach", "clash", "least", "form", "find", "barred",
        "undo", "state", "wrong", "contest", "table", "list", "mend", "export",
        "rule unlike 0| 1|2|3| 8", "rule rise 0", "rule joined 9|9|9", "rule alike 0| 0| 0| 0| 0", "rule sum 0 0", "rule count 99 1| 0", "rule apart 100 3",
        "rule seen 999 9|9|9",
        "each row unlike", "each column joined", "each pair rise", "each row alike", "each column sum 1|0|0", "each pair count 0", "each row apart 9|9",
        "each pair seen 9|9|9",
        "give 0 0", "give 10 9", "give 100 -", "load new 1 1 1|;rule unlike 0|;each row sum 3|0|;give 0 0|;rule count 0 1|0| 2|;give 999 9|;each pair rise",
        "answers 0", "answers 1|0|0", "pick 0", "pick 1|0|0|0|0|0", "pick 9|9|9|9|9|9",
        "check g0;|r12 +0.1;|w0 1 -8.3 +9.9;|u;|b;|b -100.999 +0.0;|u +1.0;|g999;|w10 100;",
        "make 0 0", "make 100 9", "vary 0", "vary 1|0|0", "cover 0", "cover 9|9|9", "person 0", "person 9", "put 0 -", "put 10 0", "put 100 9",
        "redo 0", "redo 1|0|0", "mark 0 0", "mark 100 9", "marks 0", "marks 1|0|0",
        "set a 0", "set abcdefgh 1|0|0", "submit 0 a 0 0", "submit 9 abcdefgh 100 0|1|2|3|4|5|6|7|8|9",
        "keep a", "keep z|z|z|z|z|z|z|z", "open a", "open a|b|c|d|e|f|g|h", "remove z", "remove h|g|f|e|d|c|b|a", "cut 0", "cut 9|9|9",
        "import book 0/0", "import book 10/1|0|0|0|0|0",
        "import book 100/a new 1 1 1/abcdefgh new 3 3 4;rule sum 10 0 8;each row unlike;give 8 3/9|9|9|9|9|9",
    };

    private BoundaryGrammarTest() {
    }

    public static void main(String[] args) {
        endings();
        wrongBytes();
        numbers();
        names();
        repetitions();
        nothingDone();
        finish();
    }

    /** Of each beginning of a right request what the house says: "bad K", or something else when it is right. */
    private static void endings() {
        sentence(3, "(its place is how many bytes there are, when it ends too soon)");
        for (String sample : RIGHT) {
            PuzzleHouse house = new PuzzleHouse();
            String whole = sample.replace("|", "");
            int length = 0;
            for (int i = 0; i <= sample.length(); i++) {
                boolean ends = i == sample.length() || sample.charAt(i) == '|';
                if (i > 0 && (ends || sample.charAt(i - 1) != '|')) {
                    String request = whole.substring(0, length);
                    boolean bad = Talk.say(house, request).startsWith("bad ");
                    due("\"" + request + "\" is wrong", bad, !ends);
                    due("\"" + request + "\"", bad ? Talk.say(house, request) : "right", ends ? "right" : "bad " + length);
                }
                length += ends ? 0 : 1;
            }
        }
        run(new PuzzleHouse(), "", "bad 0");
    }

    private static void wrongBytes() {
        sentence(3, "THE FIRST WRONG BYTE is that up to and with which no right request begins");
        for (String sample : RIGHT) {
            String whole = sample.replace("|", "");
            PuzzleHouse house = new PuzzleHouse();
            for (int i = 0; i <= whole.length(); i++) {
                // These bytes are in no request; what stands behind them does not matter.
                for (char c : new char[] {0, 9, '~', '|', 'A', 0x80, 0xff}) {
                    String request = whole.substring(0, i) + c + (i % 2 == 0 || i == whole.length() ? "" : whole.substring(i + 1));
                    due("\"" + request + "\"", Talk.say(house, request), "bad " + i);
                }
            }
            everyByte(whole);
        }
        for (int b = 0; b < 256; b++) {
            boolean begins = "abcdefghiklmnoprstuvw".indexOf(b) >= 0;
            run(new PuzzleHouse(), "" + (char) b, begins ? "bad 1" : "bad 0");
        }
        run(new PuzzleHouse(), "markz", "bad 4", "mark s", "bad 5", "marks", "bad 5", "markss", "bad 5", "steps", "bad 4", "stepp", "bad 4", "stat", "bad 4",
            "states", "bad 5", "newnew", "bad 3", "new new", "bad 4", " new 1 1 1", "bad 0", "rules", "bad 4", "rule unlikes", "bad 11", "rule sumo", "bad 8",
            "rule sum sum", "bad 9", "each rows", "bad 8", "each row row", "bad 10", "prov", "bad 4", "pu", "bad 2", "pi", "bad 2", "pe", "bad 2", "px", "bad 1",
            "import import", "bad 7", "check check", "bad 6", "load load", "bad 5", "load text", "bad 5", "load new 1 1 1;drop", "bad 15",
            "load new 1 1 1;give 0 -", "bad 22", "load new 1 1 1;load", "bad 15", "load new 1 1 1;g", "bad 16", "load new 1 1 1 ", "bad 14",
            "check x;", "bad 6", "check u+0.0;", "bad 7", "check u +0.0+0.0;", "bad 12", "check u +0,0;", "bad 10", "check u +.0;", "bad 9",
            "check u +0.;", "bad 11", "check u ++0.0;", "bad 9", "check u *0.0;", "bad 8", "check w0  1;", "bad 9", "check w0 +0.0;", "bad 9",
            "check g 0;", "bad 7", "check u;x", "bad 8", "check u; u;", "bad 8", "import book 0//0", "bad 14", "import book 0/a/0", "bad 15",
            "import book 0/a new 1 1 1;/0", "bad 26", "import 0/0", "bad 7", "import book/0", "bad 11");
    }

    /** Each place of a request with each byte there is, held against the patterns of the Model. */
    private static void everyByte(String whole) {
        PuzzleHouse house = new PuzzleHouse();
        for (int i = 0; i < whole.length(); i++) {
            for (int b = 0; b < 256; b++) {
                String request = whole.substring(0, i) + (char) b + whole.substring(i + 1);
                String said = Talk.say(house, request);
                String want = Model.REQUEST.matcher(request).matches() ? "right" : "bad " + Model.firstWrong(request);
                due("\"" + request + "\"", said.startsWith("bad ") ? said : "right", want);
            }
        }
    }

    private static void numbers() {
        PuzzleHouse house = new PuzzleHouse();
        sentence(3, "d: a digit.");
        run(house, "new 10 1 1", "bad 5", "new 1 10 1", "bad 7", "new 1 1 10", "bad 9", "new 1 1 -", "bad 8", "new a 1 1", "bad 4", "person 10", "bad 8",
            "person -1", "bad 7", "make 0 10", "bad 8", "mark 0 -", "bad 7", "mark 0 10", "bad 8", "submit 00 a 0 0", "bad 8", "submit 0 a 0 -", "bad 13",
            "person :", "bad 7", "person /", "bad 7");
        sentence(3, "s: a digit or \"-\".");
        run(house, "give 0 --", "bad 8", "give 0 -1", "bad 8", "give 0 10", "bad 8", "give 0 +", "bad 7", "give 0 ", "bad 7", "put 0 --", "bad 7",
            "put 0 10", "bad 7", "put 0 +", "bad 6", "give 0 -", "ok", "put 0 -", "same");
        sentence(3, "n: \"0\", or one to three digits of which the first is not 0");
        String[] ahead = {"answers ", "vary ", "cover ", "redo ", "marks ", "cut ", "rule unlike ", "rule sum 0 ", "each row sum ", "set a "};
        for (String word : ahead) {
            int at = word.length();
            run(house, word, "bad " + at, word + "00", "bad " + (at + 1), word + "01", "bad " + (at + 1), word + "000", "bad " + (at + 1),
                word + "1000", "bad " + (at + 3), word + "9999", "bad " + (at + 3), word + "-1", "bad " + at, word + "+1", "bad " + at,
                word + "a", "bad " + at, word + " 1", "bad " + at);
            due(word + "999 is right", Talk.say(house, word + "999").startsWith("bad "), false);
            due(word + "0 is right", Talk.say(house, word + "0").startsWith("bad "), false);
        }
        String[] between = {"give # 0", "put # 0", "mark # 0", "make # 0", "rule sum # 0", "submit 0 a # 0", "check g#;", "check r#;", "check w# 1;",
            "check w0 #;", "check u +#.0;", "check u -0.#;", "import book #/0", "load new 1 1 1;give # 0"};
        for (String form : between) {
            int at = form.indexOf('#');
            run(house, form.replace("#", "00"), "bad " + (at + 1), form.replace("#", "012"), "bad " + (at + 1), form.replace("#", "1000"), "bad " + (at + 3),
                form.replace("#", ""), "bad " + at);
            due(form + " of 999 is right", Talk.say(house, form.replace("#", "999")).startsWith("bad "), false);
        }
        sentence(3, "m: likewise, one to six.");
        run(house, "pick 0", "0", "pick 00", "bad 6", "pick 01", "bad 6", "pick 999999", "none", "pick 1000000", "bad 11", "pick ", "bad 5", "pick a", "bad 5",
            "import book 0/00", "bad 15", "import book 0/014257", "bad 15", "import book 0/1425700", "bad 20", "import book 0/14257", "ok",
            "import book 0/999999", "no check", "import book 0/0", "no check");
    }

    private static void names() {
        sentence(3, "name: one to eight letters a to z.");
        PuzzleHouse house = new PuzzleHouse();
        for (String word : new String[] {"keep ", "open ", "remove ", "set ", "submit 0 "}) {
            int at = word.length();
            String rest = word.startsWith("s") ? " 1 0" : "";
            run(house, word, "bad " + at, word + " a" + rest, "bad " + at, word + "abcdefghi" + rest, "bad " + (at + 8), word + "A" + rest, "bad " + at,
                word + "aB" + rest, "bad " + (at + 1), word + "1" + rest, "bad " + at, word + "a1" + rest, "bad " + (at + 1), word + "`" + rest, "bad " + at,
                word + "{" + rest, "bad " + at, word + "a-" + rest, "bad " + (at + 1));
        }
        run(house, "keep a", "ok", "keep z", "ok", "keep abcdefgh", "ok", "keep zzzzzzzz", "ok", "list", "a z abcdefgh zzzzzzzz .",
            "import book 0/abcdefghi new 1 1 1/0", "bad 22");
    }

    private static void repetitions() {
        sentence(3, "* any number of times, + at least once");
        PuzzleHouse house = new PuzzleHouse();
        run(house, "rule unlike", "bad 11", "rule unlike ", "bad 12", "rule sum 0", "bad 10", "rule sum 0 ", "bad 11", "rule unlike 0", "rule 0",
            "submit 0 a 0 ", "bad 13", "submit 0 a 0 0", "no item", "check ", "bad 6", "check u;", "line 0", "load new 1 1 1", "ok", "import book 0/14257", "ok");
        // As many as fit on the tape.
        run(house, "rule unlike" + " 0".repeat(1594), "no cell", "submit 0 a 0 " + "0".repeat(3187), "no item",
            "load new 1 1 1" + ";give 0 0".repeat(354), "ok", "load new 1 1 1" + ";give 0 0".repeat(353) + ";give 1 0", "no cell",
            "load new 1 1 1" + ";give 0 0".repeat(353) + ";give 0 ~", "bad 3199", "load new 1 1 1" + ";give 0 0".repeat(353) + ";give 0", "bad 3198",
            "check u" + " +0.0".repeat(638) + ";", "line 0", "rule unlike" + " 0".repeat(1594) + " ", "bad 3200");
        run(house, "load new 1 1 1;rule seen 0 0", "ok", "check r0;" + "u;".repeat(1595), "proof 0", "check r0;" + "u;".repeat(1594) + "r1;", "line 1595",
            "check r0;" + "u;".repeat(1594) + "r1 ", "bad 3200", "check " + "u;".repeat(1597), "line 0", "check r0;" + "u;".repeat(1594) + "b;", "line 1595");
        String book = "book 100" + "/a new 1 1 1".repeat(100) + "/";
        run(house, "import " + book + check(book), "ok", "list", "a .");
    }

    private static void nothingDone() {
        sentence(3, "\"bad K\": K is the place of the first wrong byte (nothing is done).");
        PuzzleHouse house = loaded("new 2 1 2;rule unlike 0 1;give 0 1");
        run(house, "keep a", "ok", "set a 5", "ok", "person 2", "ok", "put 1 1", "ok", "mark 1 0", "on");
        String[] wrong = {"new 1 1 1 ", "rule unlike 0~", "each row unlike ", "give 0 0 ", "drop ", "load new 1 1 1;", "make 0 0 ", "least ", "vary 1 ", "person 0 ",
            "put 1 0 ", "undo ", "redo 0 ", "mark 1 0 ", "contest ", "set b 1 ", "submit 0 a 1 10 ", "keep b ", "open a ", "remove a ", "cut 0 ", "mend ",
            "import book 0/14257 ", "import book 1/b new 1 1 1/2 "};
        for (String request : wrong) {
            // A text that ends with ";" ends too soon; of the others the last byte is the wrong one.
            run(house, request, "bad " + (request.endsWith(";") ? request.length() : request.length() - 1));
            states(house, 1, 1, 2, 2, 1, 1, 0);
            due("state(8)", house.state(8), 2);
            due("state(9)", house.state(9), 1);
        }
        run(house, "text", "new 2 1 2;rule unlike 0 1;give 0 1", "state", "11", "marks 1", "0.", "list", "a .", "table", "0 0 0;1 0 0;2 0 0;", "undo", "ok",
            "state", "1.", "cut 65", "ok");
    }
}
