/**
 * For each promise of the document calls whose answers were worked out by hand; but the puzzles whose proof or lesson
 * has just 3,000 bytes, and the one whose lesson is too long, were found by a search, and the Model agrees on them.
 */
public final class PromiseTest extends Checks {
    private PromiseTest() {
    }

    public static void main(String[] args) {
        promise1();
        promise2();
        promise3Grammar();
        promise3Puzzle();
        promise3Kinds();
        promise3Answers();
        promise3Givens();
        promise3Proofs();
        promise3Steps();
        promise3Variants();
        promise3Covers();
        promise3Play();
        promise3PlayAnew();
        promise3Contest();
        promise3Book();
        promise3Import();
        promise4();
        promise5();
        promise6();
        promise7();
        promise8();
        end();
    }

    // ---- Promise 1 ----

    private static void promise1() {
        part("promise 1");
        PuzzleHouse house = new PuzzleHouse();
        states(house, 0, 0, 1, 1, 0, 0, 0, 0, 0, 0);
        due("answer(0)", house.answer(0), -1);
        for (int page = 0; page < 32; page++) {
            for (int i = 0; i < 32; i++) {
                due("byteAt", house.byteAt(page, i), page == 0 && i == 0 ? 1 : 0);
            }
        }
        run(house, "text", "new 1 1 1", "list", ".", "table", "0 0 0;1 0 0;2 0 0;", "state", ".", "cut 0", "no cut", "many", "1",
            "undo", "no step");
        due("checkAnswer of a new object", Talk.checkAnswer(new PuzzleHouse()), "bad 6");
    }

    // ---- Promise 2 ----

    private static void promise2() {
        part("promise 2");
        PuzzleHouse house = new PuzzleHouse();
        due("feed", house.feed(0x74657874, -1, 0, 0x80ff00ff, 1), 20);
        for (int i = 2; i <= 160; i++) {
            due("feed", house.feed(0, 0, 0, 0, 0), 20 * i);
        }
        due("feed too much", house.feed(1, 1, 1, 1, 1), -1);
        due("state(6)", house.state(6), 3200);
        due("ask", house.ask(4), 9);
        due("state(6)", house.state(6), 0);
        due("feed", house.feed(0x6c697374, 0, 0, 0, 0), 20);
        due("ask", house.ask(4), 1);
        // The bytes come highest first: all twenty are read as one request.
        due("feed", house.feed(0x61626364, 0x6d61726b, 0x73203020, 0, 0), 20);
        due("ask", house.ask(20), 5);
        due("its answer", Talk.read(5, house::answer), "bad 1");
        house.feed(0x6d61726b, 0x73203000, 0, 0, 0);
        due("ask", house.ask(7), 1);
    }

    // ---- Promise 3 ----

    private static void promise3Grammar() {
        part("promise 3, grammar");
        PuzzleHouse house = new PuzzleHouse();
        due("ask(-1)", house.ask(-1), -1);
        due("ask(1)", house.ask(1), -1);
        house.feed(0x74657874, 0, 0, 0, 0);
        due("ask(21)", house.ask(21), -1);
        due("state(6)", house.state(6), 20);
        due("state(7)", house.state(7), 0);
        due("ask(0)", house.ask(0), 5);
        due("its answer", Talk.read(5, house::answer), "bad 0");
        due("state(6)", house.state(6), 0);
        run(house, "x", "bad 0", "te", "bad 2", "tex", "bad 3", "texts", "bad 4", "text ", "bad 4", "tez", "bad 2",
            "mark", "bad 4", "marks", "bad 5", "markz 1", "bad 4", "mar 1", "bad 3", "marks 0", ".", "mark 0", "bad 6",
            "new 1 1", "bad 7", "new 1 1 1 ", "bad 9", "new  1 1 1", "bad 4", "new 1 1 12", "bad 9", "newt", "bad 3",
            "rule foo 1", "bad 5", "rule su", "bad 7", "rule sum 5", "bad 10", "rule sum 5 ", "bad 11", "rule sum 05 0", "bad 10",
            "rule unlike", "bad 11", "rule unlike 0 ", "bad 14", "rule unlike 0;", "bad 13", "rule unlike 1000", "bad 15",
            "rule unlike 00", "bad 13", "each pairs unlike", "bad 9", "each row sum", "bad 12", "each cell unlike", "bad 6",
            "each row unlike 1", "bad 15", "give 0 a", "bad 7", "give 0 10", "bad 8", "give -", "bad 5", "pick 1000000", "bad 11",
            "pick 999999", "none", "answers 1000", "bad 11", "answers 100", "0 all", "load", "bad 4", "load new 1 1 1;", "bad 15",
            "load new 1 1 1;give 0 -", "bad 22", "load new 1 1 1;new 1 1 1", "bad 15", "load new 1 1 1;rule unlike 0;each row", "bad 37",
            "check ", "bad 6", "check u", "bad 7", "check u;;", "bad 8", "check u ;", "bad 8", "check u +0;", "bad 10",
            "check w0;", "bad 8", "check w0 +0.0;", "bad 9", "check b 0.0;", "bad 8", "check g +0.0;", "bad 7", "check u u;", "bad 8",
            "submit 0 a 1", "bad 12", "submit 0 a 1 ", "bad 13", "submit 0 a 1 1a", "bad 14", "keep abcdefghi", "bad 13", "keep", "bad 4",
            "keep A", "bad 5", "keep a b", "bad 6", "import book 0", "bad 13", "import book 0/", "bad 14", "import book 0/A", "bad 14",
            "import book 0/1/", "bad 15", "import book 0/a1", "bad 15", "import book 1/a new 1 1 1", "bad 25", "import book 0/1000000", "bad 20",
            "redo", "bad 4", "remove", "bad 6", "re", "bad 2", "cover 01", "bad 7", "\u00e9", "bad 0", "text\0", "bad 4");
        states(house, 0, 0, 1, 1, 0, 0, 0, 5, 0, 0);
    }

    private static void promise3Puzzle() {
        part("promise 3, the puzzle");
        PuzzleHouse house = new PuzzleHouse();
        run(house, "new 0 1 1", "no size", "new 4 1 1", "no size", "new 1 0 1", "no size", "new 1 4 1", "no size", "new 1 1 0", "no size",
            "new 1 1 5", "no size", "text", "new 1 1 1", "new 3 2 4", "ok", "rule unlike 6", "no cell", "rule unlike 0 1 0", "no cell",
            "rule unlike 0 1 2 3 4", "no cell", "rule sum 100 6", "no cell", "rule sum 100 0", "no number", "rule sum 99 5 0 1 2", "rule 0",
            "rule rise 3", "rule 1", "each row joined", "rules 2", "each column apart 2", "rules 3", "each pair alike", "no room",
            "text", "new 3 2 4;rule sum 99 5 0 1 2;rule rise 3;rule joined 0 1 2;rule joined 3 4 5;rule apart 2 0 3;rule apart 2 1 4"
                + ";rule apart 2 2 5",
            "each row seen 100", "no number", "give 6 0", "no cell", "give 6 9", "no cell", "give 5 4", "no symbol", "give 5 3", "ok",
            "give 0 0", "ok", "give 5 2", "ok", "give 1 1", "ok", "give 1 -", "ok", "give 2 -", "ok", "drop", "ok", "drop", "ok", "drop", "ok",
            "text", "new 3 2 4;rule sum 99 5 0 1 2;rule rise 3;rule joined 0 1 2;rule joined 3 4 5;give 0 0;give 5 2",
            "new 1 1 2", "ok", "drop", "no rule", "text", "new 1 1 2", "each pair unlike", "rules 0");
        run(house, "new 3 3 2", "ok", "each pair unlike", "rules 12", "text", "new 3 3 2;rule unlike 0 1;rule unlike 0 3;rule unlike 1 2"
                + ";rule unlike 1 4;rule unlike 2 5;rule unlike 3 4;rule unlike 3 6;rule unlike 4 5;rule unlike 4 7;rule unlike 5 8"
                + ";rule unlike 6 7;rule unlike 7 8",
            "rule unlike 0", "no room", "rule unlike 9", "no cell", "rule sum 100 0", "no number", "each row unlike", "no room",
            "each row sum 100", "no number", "drop", "ok", "rule count 1 8", "rule 11", "many", "2");
        run(house, "load new 1 2 3;each column rise;give 1 2;give 1 1;rule seen 2 1 0", "ok",
            "text", "new 1 2 3;rule rise 0 1;rule seen 2 1 0;give 1 1", "load new 4 1 1;give 9 9", "no size",
            "load new 1 1 1;give 1 9", "no cell", "load new 1 1 1;give 0 9;rule unlike 7", "no symbol", "load new 1 1 1;rule sum 100 0", "no number",
            "load new 3 3 1;each pair unlike;each row unlike", "no room", "text", "new 1 2 3;rule rise 0 1;rule seen 2 1 0;give 1 1");
    }

    /** Each kind of rule, by the answers of a row of two to four cells. */
    private static void promise3Kinds() {
        part("promise 3, kinds of rules");
        on("new 2 1 3;rule unlike 0 1", "answers 9", "01 02 10 12 20 21 all");
        on("new 2 1 3;rule alike 1 0", "answers 9", "00 11 22 all");
        on("new 2 1 3;rule rise 1 0", "answers 9", "10 20 21 all");
        on("new 2 1 3;rule apart 2 0 1", "answers 9", "02 20 all");
        on("new 2 1 3;rule apart 0 0 1", "many", "9");
        on("new 2 1 3;rule apart 99 0", "many", "9");
        on("new 2 1 3;rule sum 3 0 1", "answers 9", "12 21 all");
        on("new 2 1 3;rule sum 5 0 1", "answers 9", "all");
        on("new 3 1 2;rule count 2 2 0 1", "answers 9", "010 011 100 101 all");
        on("new 3 1 2;rule count 1 0 1 2", "answers 9", "011 100 all");
        on("new 3 1 2;rule count 0 0 1 2", "answers 9", "all");
        on("new 3 1 2;rule seen 2 0 1 2", "answers 9", "001 010 011 all");
        on("new 3 1 2;rule seen 2 2 1 0", "answers 9", "010 100 110 all");
        on("new 3 1 2;rule seen 1 0 1 2", "answers 9", "000 100 101 110 111 all");
        on("new 3 1 2;rule joined 0 1 2", "answers 9", "000 001 010 011 100 110 111 all");
        on("new 3 1 3;rule joined 0 2;give 0 1", "answers 9", "100 102 110 112 120 122 all");
        on("new 2 2 2;rule joined 0 1 2 3", "many", "14");
        on("new 2 2 2;rule joined 3 0;give 1 1;give 2 1", "answers 9", "0110 0111 1110 all");
    }

    private static void promise3Answers() {
        part("promise 3, answers");
        on("new 3 3 3;each row unlike;each column unlike", "many", "12", "answers 0", "more", "answers 1", "012120201 more",
            "answers 2", "012120201 012201120 more", "pick 0", "012120201", "pick 11", "210102021", "pick 12", "none", "answers 101", "no number",
            "give 0 2", "ok", "give 1 1", "ok", "answers 2", "210021102 210102021 all", "answers 1", "210021102 more", "pick 1", "210102021",
            "give 2 1", "ok", "answers 0", "all", "answers 7", "all", "many", "0", "pick 0", "none");
        on("new 3 3 4", "many", "262144", "pick 262143", "333333333", "pick 262144", "none", "pick 5", "000000011");
        on("new 3 3 4;rule rise 0 8", "many", "98304", "pick 98303", "233333333", "pick 3", "000000011");
        on("new 2 1 2", "answers 4", "00 01 10 11 all", "answers 3", "00 01 10 more");
    }

    private static void promise3Givens() {
        part("promise 3, givens");
        on("new 2 1 2;rule unlike 0 1;give 0 0;give 1 0", "clash", "clash 0 1", "text", "new 2 1 2;rule unlike 0 1;give 0 0;give 1 0",
            "give 1 1", "ok", "clash", "none");
        on("new 3 1 2;rule unlike 0 1;rule unlike 1 2;give 0 0;give 1 0;give 2 0", "clash", "clash 1 2");
        on("new 1 1 2;rule sum 9 0;give 0 1", "clash", "clash", "least", "not one", "make 1 0", "none", "make 1 2", "no kind", "wrong", "not one");
        on("new 2 1 2;rule unlike 0 1;give 0 0;give 1 1", "least", "least 1", "text", "new 2 1 2;rule unlike 0 1;give 1 1", "least", "least 1",
            "give 1 -", "ok", "least", "not one");
        on("new 1 1 1;give 0 0", "least", "least 0", "text", "new 1 1 1");
        on("new 2 1 2;give 0 0", "make 3 0", "made 2", "text", "new 2 1 2;give 0 1;give 1 1", "make 5 1", "made 2",
            "text", "new 2 1 2;give 0 0;give 1 0", "make 0 9", "no kind");
        on("new 2 1 2;rule unlike 0 1", "make 3 0", "made 1", "text", "new 2 1 2;rule unlike 0 1;give 1 0", "make 3 1", "made 2",
            "text", "new 2 1 2;rule unlike 0 1;give 0 1;give 1 0");
        on("new 3 3 3;each row unlike;each column unlike", "make 0 0", "made 2", "drop", "ok", "drop", "ok", "drop", "ok", "drop", "ok", "drop", "ok",
            "text", "new 3 3 3;rule unlike 0 1 2;give 2 0;give 3 1");
        on("new 1 1 1", "make 0 1", "made 0");
    }

    private static void promise3Proofs() {
        part("promise 3, proofs");
        on("new 2 1 2;rule rise 0 1", "prove", "r0 -0.1;r0 -1.0 +0.1;b -0.0 -1.1;u;", "teach", "r0 -0.1;r0 -1.0 +0.1;b -0.0 -1.1;u;",
            "grade", "2 1 0");
        on("new 1 1 2", "prove", "b -0.0;u -0.0;b -0.1;u -0.1;u;", "grade", "0 3 1", "teach", ".");
        on("new 2 1 2;rule alike 0 1;give 1 0;give 0 1", "prove", "g0 +0.1;g1 +1.0;r0 -0.1 +1.1;u;", "grade", "1 1 0",
            "teach", "g0 +0.1;g1 +1.0;r0 -0.1 +1.1;u;");
        on("new 3 3 3;each row unlike;each column unlike", "grade", "0 22 3");
        on("new 3 3 2", "grade", "long", "prove", "long");
        on("new 3 2 2", "grade", "long", "prove", "long");
        on("new 3 2 2;give 0 0", "grade", "0 63 5");
        // One line g of 8 bytes, 32 lines b of 32, lines u of 2 + 5 for each choice.
        due("length of a proof", Talk.say(loaded("new 3 2 2;give 0 0"), "prove").length(), 8 + 32 * 32 + 2 + 14 + 48 + 136 + 352 + 864);
        // Such a tree, with 32 * 47 + 1416 bytes of lines b and u, 29 ahead of them, and four lines r of 13: one byte too many.
        on("new 3 3 2;rule alike 1 5;rule rise 8 2;give 4 1", "grade", "2 63 5", "prove", "long");
        due("length of a proof", Talk.say(loaded("new 3 3 2;rule joined 7 1 6 4;rule sum 1 8 1 2 3;rule alike 0;give 2 0;give 6 1"), "prove").length(), 3000);
        due("length of a lesson", Talk.say(loaded("new 3 3 4;rule joined 0 8 3;rule unlike 1 6;rule sum 3 3 7 4 6;rule count 1 8 5 3 2;rule unlike 7 8 6"
            + ";rule sum 3 1 7 8;rule count 2 7 2;rule count 1 0 3;rule count 1 2 4 8;rule unlike 4 6;rule joined 1 5;rule count 1 6 8 7"), "teach").length(), 3000);
        on("new 3 3 4;rule unlike 3 8 2;rule apart 1 0 4;rule unlike 3 7 0 4;rule unlike 6 0 5;rule seen 2 2 0 3 5;rule unlike 6 1;rule apart 2 4 3"
            + ";rule unlike 2 3 6;rule alike 5 8 4;rule apart 2 3 2", "teach", "long");
        // Cell 1 has fewest symbols of those that have more than one, so it is the cell of choice.
        on("new 2 1 3;rule apart 2 0 1;give 0 2", "prove", "g0 +0.2;r0 -1.1 +0.0 +0.1;r0 -1.2 +0.0 +0.1;b -0.2 -1.0;u;");
        on("new 2 1 3;rule seen 2 1", "prove", "r0 -1.0;r0 -1.1;r0 -1.2;u;", "grade", "3 1 0");
        on("new 2 1 3;rule sum 2 1", "prove", "r0 -1.0;r0 -1.1;b -0.0 -1.2;u -0.0;b -0.1 -1.2;u -0.1;b -0.2 -1.2;u -0.2;u;");
        on("new 2 1 3;rule rise 1 0", "grade", "2 5 2");
        checks();
    }

    private static void checks() {
        on("new 2 1 2;rule rise 0 1;rule unlike 1 0;give 0 0", "check g0 +0.0;", "open", "check g0;", "line 0", "check g0 +0.1;", "line 0",
            "check g1 +1.1;", "line 0", "check g0 +0.1 +0.0 -1.1;", "open", "check g2 +0.0;", "line 0", "check g0 +0.0 +0.0;", "line 0",
            "check g0 +0.0 +2.0;", "line 0", "check g0 +0.0 +0.2;", "line 0", "check g0 +0.0 -0.0;", "open",
            "check r0 -0.1;", "open", "check r0 +0.0;", "open", "check r0;", "line 0", "check r0 +0.1;", "line 0", "check r2 +0.0;", "line 0",
            "check r1 -0.0 -1.0;", "open", "check r1 -0.0;", "line 0", "check r1 -0.0 -0.1;", "open", "check r1 +0.0 +0.1;", "open",
            "check w0 1 +0.0;", "open", "check w1 0 +0.0;", "line 0", "check w0 0 +0.0;", "line 0", "check w0 2 +0.0;", "line 0", "check w0 1;", "line 0",
            "check b -0.0 -1.1;", "open", "check b -0.1 -1.0;", "line 0", "check b -0.0;", "line 0", "check b -0.0 -1.1 -1.0;", "line 0",
            "check b -0.0 +1.1;", "line 0", "check b;", "line 0", "check u;", "line 0", "check u -0.0 -0.1;", "open", "check u +0.0 +0.1;", "open",
            "check u +0.0 -0.0;", "open", "check u -0.0 -0.0;", "line 0", "check b -0.0 -1.1;r0 -0.1;r0 -1.0;u;", "proof 1",
            "check r0 -0.1;r0 -1.0;b -0.0 -1.1;u;", "proof 1", "check r0 -0.1;r0 -1.0;u;", "line 2", "check r0 -0.1;r0 -1.0;u -1.1;u;", "line 2",
            "check r0 -0.1;r0 -1.0;b -0.0 -1.1;b -1.1 -0.0;u +0.1;u;u;", "proof 1", "check r0 -0.1;r0 -1.0;b -0.0 -1.1;u;g0 +0.0;", "open",
            "check b -0.0 -1.1;u -0.0;", "line 1", "check r0 -1.0;b -0.0 -1.1;u -0.0;", "open", "check r9;u;", "line 0", "check r999 +999.999;", "line 0");
        on("new 1 1 3;rule seen 0 0", "check r0;u;", "proof 0", "check r0;", "open", "check u;r0;", "line 0");
        on("new 1 1 1", "check u;", "line 0", "check b -0.0;u;", "proof 1", "check b -0.0;b -0.0;u;", "proof 1", "check u -0.0;", "line 0",
            "check u +0.0;", "open");
        on("new 1 1 2", "check b -0.1;b -0.0;u;", "proof 2", "check b -0.1;u -0.1;b -0.0;u -0.0;u;", "proof 2");
        // Two rules may have no cell in common in a line w, but no more than six together.
        on("new 2 2 2;rule alike 0 1;rule unlike 2 3", "check w0 1 -0.0 +1.0;", "open", "check w0 1 -2.0 -3.0;", "open", "check w0 1 -0.0 -2.0;", "line 0");
        on("new 3 3 2;rule alike 0 1 2 3;rule alike 4 5 6;rule alike 3 4 5", "check w0 1 -0.0 +1.0;", "line 0", "check w0 2 -0.0 +5.0;", "open",
            "check w1 2 -3.1 +6.1;", "open", "check w1 2 -3.1 +7.1;", "line 0");
    }

    private static void promise3Steps() {
        part("promise 3, steps");
        on("new 2 1 2;rule rise 0 1", "hint", "hint 0 0 0", "step", "one 0 1 0", "solve", "solved 2 0 0", "put 0 1", "ok", "hint", "can't",
            "step", "one 0 1 0", "solve", "broken 1 0 0", "put 0 0", "ok", "hint", "hint 1 1 0", "step", "one 1 0 0", "solve", "solved 1 0 0",
            "put 1 1", "ok", "hint", "none", "step", "solved", "solve", "solved 0 0 0", "person 1", "ok", "step", "one 0 1 0");
        on("new 2 1 2;rule unlike 0 1", "hint", "none", "step", "stuck", "solve", "stuck 0 0 0", "teach", ".");
        on("new 3 1 2;rule unlike 0 1;rule unlike 1 2;rule unlike 0 2", "step", "try 0 0", "solve", "broken 3 0 1", "hint", "none",
            "teach", "r0 -1.0 +0.1;r1 -2.1 +1.0;r2 -0.0 +2.1;u -0.0;r0 -1.1 +0.0;r1 -2.0 +1.1;r2 -0.1 +2.0;u;", "grade", "0 3 1");
        on("new 2 1 3;rule sum 2 0 1;rule unlike 0 1", "step", "two 0 1 0 1", "solve", "stuck 1 1 0", "teach", "w0 1 -0.1;r0 -1.1 +0.1;");
        // One of 0 and 1 has symbol 1, and 5 is beside neither.
        on("new 3 2 2;rule unlike 0 1;rule joined 0 1 5", "step", "two 5 1 0 1", "solve", "stuck 0 1 0", "teach", "w0 1 -5.1;", "put 5 1", "ok",
            "step", "one 0 1 1");
    }

    private static void promise3Variants() {
        part("promise 3, variants");
        on("new 2 1 2;rule unlike 1 0;give 1 1", "form", "new 2 1 2;rule unlike 0 1;give 0 0", "text", "new 2 1 2;rule unlike 1 0;give 1 1");
        on("new 2 1 2;rule rise 1 0;give 1 1", "form", "new 2 1 2;rule rise 0 1;give 0 1");
        // ";" is above a blank, so that of whole texts the one with the longer rule there is less.
        on("new 3 1 2;rule unlike 0 1;rule unlike 2 1 0", "form", "new 3 1 2;rule unlike 0 1 2;rule unlike 1 2");
        on("new 3 1 2;rule sum 9 0 1;rule sum 10 1 0;rule sum 1 2 0", "form", "new 3 1 2;rule sum 1 0 2;rule sum 10 0 1;rule sum 9 0 1");
        on("new 3 1 2;rule unlike 0 1;rule unlike 1 0", "form", "new 3 1 2;rule unlike 0 1");
        on("new 2 2 3;rule count 2 3 1 2;rule seen 1 3 2;give 0 2", "form", "new 2 2 3;rule count 2 0 1 2;rule seen 1 0 1;give 3 2");
        on("new 3 1 3;rule apart 1 2 0 1;rule joined 2 0;rule alike 2", "form", "new 3 1 3;rule alike 0;rule apart 1 0 2 1;rule joined 0 2");
        on("new 2 1 2;rule rise 0 1;give 0 0", "vary 1", "ok", "text", "new 2 1 2;rule rise 1 0;give 1 0", "vary 6", "ok",
            "text", "new 2 1 2;rule rise 1 0;give 1 0", "vary 0", "ok", "text", "new 2 1 2;rule rise 1 0;give 1 0");
        on("new 3 3 3;rule count 1 5 0;give 1 0;give 3 2", "vary 4", "ok", "text", "new 3 3 3;rule count 1 7 0;give 1 2;give 3 0",
            "vary 17", "ok", "text", "new 3 3 3;rule count 1 7 2;give 1 2;give 5 1");
        // Map 1, then renaming 1 (0 2 1): 8 maps, 1 + 8 * 1 = 9.
        on("new 2 2 3;give 0 1;give 1 0", "vary 9", "ok", "text", "new 2 2 3;give 0 0;give 1 2", "vary 48", "ok", "text", "new 2 2 3;give 0 0;give 1 2",
            "vary 40", "ok", "text", "new 2 2 3;give 0 2;give 1 0");
        // Map 5: x becomes 1 - x, then x and y are exchanged.
        on("new 2 2 2;rule seen 1 0 1 2", "vary 5", "ok", "text", "new 2 2 2;rule seen 1 2 0 3");
        // Cells 0 to 5 of three in a row: map 3 turns them round; there are four maps.
        on("new 3 2 2;rule rise 0 1 5;give 2 1", "vary 3", "ok", "text", "new 3 2 2;rule rise 5 4 0;give 3 1", "vary 7", "ok",
            "text", "new 3 2 2;rule rise 0 1 5;give 2 1");
    }

    private static void promise3Covers() {
        part("promise 3, covers");
        on("new 2 2 2;rule unlike 0 1;rule unlike 2 3;rule unlike 0 2;rule unlike 1 3", "cover 5", "0+1 2+3 all", "cover 2", "0+1 2+3 all",
            "cover 1", "0+1 more", "cover 0", "more", "cover 101", "no number", "cover 100", "0+1 2+3 all", "barred", "open");
        on("new 1 1 1", "cover 0", "all", "cover 9", "all", "barred", "barred 2 1");
        on("new 3 1 2;rule unlike 2;rule unlike 0;rule sum 1 0 1 2;rule unlike 1;rule unlike 0 1;rule unlike 0", "cover 9",
            "0+1+3 0+3+5 0+4 2 all", "barred", "open");
        on("new 2 1 2", "barred", "barred 2 01");
        on("new 3 1 2;rule unlike 0 1;rule unlike 1 2", "barred", "barred 2 111", "cover 1", "all");
        on("new 2 2 2;rule unlike 0 1 2;rule unlike 1 2 3;rule unlike 0 3", "barred", "barred 2 1011");
        on("new 2 2 2;rule unlike 0 1;rule unlike 0 2;rule unlike 0 3", "barred", "barred 3 1222");
        on("new 2 2 2;rule unlike 0 1;rule unlike 0 2;rule unlike 1 2;rule unlike 3", "barred", "barred 2 1110");
    }

    private static void promise3Play() {
        part("promise 3, play");
        PuzzleHouse house = loaded("new 2 2 3;rule unlike 0 1;give 0 2");
        run(house, "person 3", "no person", "person 9", "no person", "state", "2...", "put 4 9", "no cell", "put 0 9", "given", "put 0 -", "given",
            "put 1 3", "no symbol", "put 1 -", "same", "put 1 0", "ok", "put 1 0", "same", "put 1 1", "ok", "state", "21..", "undo", "ok",
            "state", "20..", "put 2 2", "ok", "put 1 -", "ok", "state", "2.2.", "undo", "ok", "undo", "ok", "undo", "ok", "undo", "no step",
            "state", "2...", "redo 1", "no step", "redo 0", "ok", "state", "20..", "redo 1", "ok", "state", "202.", "undo", "ok", "redo 0", "ok",
            "state", "21..", "redo 0", "no step", "person 2", "ok", "state", "2...", "undo", "no step", "put 3 1", "ok", "person 0", "ok", "state", "21..");
        due("state(4)", house.state(4), 4);
        run(house, "mark 4 9", "no cell", "mark 0 0", "given", "mark 1 3", "no symbol", "mark 1 2", "on", "mark 1 0", "on", "marks 1", "02.",
            "mark 1 2", "off", "marks 1", "0.", "marks 0", ".", "marks 4", "no cell", "person 1", "ok", "marks 1", ".", "wrong", "not one",
            "person 2", "ok", "state", "2..1");
        PuzzleHouse full = loaded("new 1 1 2");
        for (int i = 0; i < 100; i++) {
            run(full, "put 0 " + i % 2, "ok");
        }
        run(full, "put 0 0", "no room", "put 0 1", "same", "undo", "ok", "put 0 1", "no room", "undo", "ok", "put 0 -", "no room", "person 1", "ok", "put 0 1", "ok",
            "person 0", "ok", "state", "1");
        due("state(4)", full.state(4), 100);
        on("new 3 1 2;rule unlike 0 1;rule unlike 1 2;give 1 0", "wrong", "0", "put 0 0", "ok", "wrong", "1", "put 2 0", "ok", "wrong", "2", "put 0 1", "ok",
            "wrong", "1", "person 1", "ok", "wrong", "0");
    }

    /** What begins play anew, and what does not. */
    private static void promise3PlayAnew() {
        part("promise 3, play anew");
        String[] anew = {"new 1 1 2", "rule unlike 1", "each row unlike", "give 1 0", "give 1 -", "drop", "load new 2 1 2", "open a", "make 1 0", "vary 0", "least"};
        String[] not = {"new 0 1 1", "rule unlike 9", "rule sum 100 1", "each row sum 100", "give 9 0", "give 1 3", "load new 1 1 1;give 3 3", "open b", "make 1 2", "text",
            "many", "form", "keep b", "mend", "import book 0/14257", "person 1", "contest", "prove", "solve", "cover 3"};
        for (int i = 0; i < anew.length + not.length; i++) {
            boolean begins = i < anew.length;
            String request = begins ? anew[i] : not[i - anew.length];
            PuzzleHouse house = loaded("new 2 1 2;rule unlike 0 1;give 0 0");
            run(house, "keep a", "ok", "person 2", "ok", "put 1 1", "ok", "mark 1 1", "on", "person 1", "ok", "put 1 0", "ok");
            Talk.say(house, request);
            due("persons behind " + request, house.state(8), 1);
            due("steps behind " + request, house.state(4), begins ? 0 : 1);
            run(house, "person 2", "ok");
            due("steps behind " + request, house.state(4), begins ? 0 : 1);
            if (!request.equals("new 1 1 2")) {
                run(house, "marks 1", begins ? "." : "1.");
            }
        }
        on("new 2 1 2;give 0 0", "put 1 1", "ok", "least", "not one", "state", "01");
        PuzzleHouse one = loaded("new 1 1 1");
        run(one, "put 0 0", "ok", "each pair unlike", "rules 0", "state", ".", "undo", "no step");
    }

    private static void promise3Contest() {
        part("promise 3, the contest");
        PuzzleHouse house = loaded("new 2 1 2;rule unlike 0 1");
        run(house, "set a 5", "no name", "keep a", "ok", "set a 5", "ok", "set a 6", "there", "give 0 1", "ok", "keep a", "ok", "keep b", "ok", "set b 2", "ok",
            "submit 3 z 1 0", "no person", "submit 0 z 1 0", "no item", "submit 0 a 1 0", "no filling", "submit 0 a 1 012", "no filling",
            "submit 0 a 1 02", "no filling", "submit 0 a 1 00", "wrong", "submit 0 a 1 11", "wrong", "submit 0 a 10 01", "right", "submit 0 a 1 99", "over",
            "submit 0 b 1 01", "wrong", "table", "0 3 50;1 0 0;2 0 0;", "submit 2 a 50 10", "right", "table", "2 5 50;0 3 50;1 0 0;",
            "submit 1 b 1 00", "wrong", "submit 1 b 1 00", "wrong", "submit 1 b 1 00", "wrong", "submit 1 b 1 10", "right", "table", "2 5 50;0 3 50;1 0 61;",
            "submit 0 b 0 10", "right", "table", "2 5 50;0 4 70;1 0 61;", "keep c", "ok", "keep d", "ok", "keep e", "ok", "keep f", "ok", "keep g", "ok",
            "set c 1", "ok", "set d 1", "ok", "set e 1", "ok", "set f 0", "ok", "set g 1", "no room", "set a 1", "there", "set h 1", "no name");
        due("state(9)", house.state(9), 6);
        // Without points those who were right have a time all the same.
        run(house, "submit 1 f 7 10", "right", "table", "2 5 50;0 4 70;1 0 68;", "remove a", "ok", "submit 1 a 3 01", "right", "table", "2 5 50;1 5 71;0 4 70;",
            "contest", "ok", "table", "0 0 0;1 0 0;2 0 0;", "submit 0 b 1 10", "no item", "set b 9", "ok", "submit 0 b 1 10", "right");
        due("poke", house.poke(9, 9, 9), true);
        run(house, "set c 1", "shut", "set zz 1", "shut", "submit 1 b 1 10", "right", "table", "0 9 1;1 9 1;2 0 0;");
    }

    private static void bytes(PuzzleHouse house, int page, int... want) {
        for (int i = 0; i < 32; i++) {
            due("byteAt(" + page + ", " + i + ")", house.byteAt(page, i), i < want.length ? want[i] : 0);
        }
    }

    private static void promise3Book() {
        part("promise 3, the book");
        PuzzleHouse house = new PuzzleHouse();
        run(house, "list", ".", "open a", "no name", "remove a", "no name", "keep ab", "ok", "list", "ab .");
        bytes(house, 0, 2);
        bytes(house, 1);
        bytes(house, 3, 2, 'a', 'b', 9, 0, 'n', 'e', 'w', ' ', '1', ' ', '1', ' ', '1');
        due("count", house.byteAt(2, 0), 1);
        due("chain", house.byteAt(2, 1), 3);
        due("pages", house.byteAt(2, 2), 1);
        due("sum", house.byteAt(2, 31), 5);
        run(house, "load new 3 3 3;each row unlike;each column unlike", "ok", "keep c", "ok", "list", "ab c .");
        due("turn", house.byteAt(0, 0), 1);
        // 3 + 1 + 9 + 6 * 18 = 121 bytes are four pages: 4 to 7.
        due("chain", house.byteAt(1, 3), 4);
        due("pages", house.byteAt(1, 4), 4);
        due("text's length", house.byteAt(4, 2), 117);
        due("sum", house.byteAt(1, 31), 2 + 3 + 1 + 4 + 4);
        run(house, "new 1 1 2", "ok", "keep ab", "ok", "list", "c ab .", "keep ab", "ok");
        // Page 3 was not free while ab stood there; then it is.
        due("chain", house.byteAt(1, 3), 3);
        due("sum", house.byteAt(1, 31), 2 + 4 + 4 + 3 + 1);
        run(house, "open c", "ok", "text", "new 3 3 3;rule unlike 0 1 2;rule unlike 3 4 5;rule unlike 6 7 8;rule unlike 0 3 6;rule unlike 1 4 7;rule unlike 2 5 8",
            "vary 3", "ok", "find", "c .", "give 0 1", "ok", "find", ".", "keep d", "ok", "keep e", "ok", "vary 13", "ok", "find", "d e .", "remove c", "ok", "list", "ab d e .",
            "remove c", "no name", "open ab", "ok", "text", "new 1 1 2");
        cuts();
        rooms();
    }

    private static void cuts() {
        PuzzleHouse house = new PuzzleHouse();
        run(house, "keep a", "ok", "new 1 1 3", "ok", "keep b", "ok", "cut 66", "no cut", "cut 65", "ok", "cut 0", "no cut", "list", "shut", "keep c", "shut", "open a", "shut",
            "remove a", "shut", "export", "shut", "import book 0/14257", "shut", "find", "shut");
        due("state(5)", house.state(5), -1);
        run(house, "mend", "ok", "list", "a b .", "cut 0", "no cut", "remove a", "ok", "list", "b .", "cut 34", "no cut", "cut 32", "ok", "mend", "ok", "list", "a b .",
            "remove a", "ok", "cut 33", "ok", "mend", "ok", "list", "b .", "keep a", "ok", "list", "b a .", "cut 0", "ok", "mend", "ok", "list", "b .");
        due("page 3 stays", house.byteAt(3, 1), (int) 'a');
        run(house, "new 2 2 4", "ok", "keep a", "ok", "cut 12", "ok");
        bytes(house, 3, 1, 'a', 9, 0, 'n', 'e', 'w', ' ', '2', ' ', '2', ' ', '1');
        run(house, "mend", "ok", "list", "b .", "keep a", "ok", "keep abcdefgh", "ok", "mend", "ok", "cut 0", "no cut", "remove zz", "no name", "cut 0", "no cut",
            "import book 0/14257", "ok", "cut 0", "no cut");
        // Of the latest entry alone: the one ahead of it stays.
        run(house, "import book 2/a new 1 1 1/b new 2 1 2;rule unlike 0 1;give 0 1/55487", "ok", "list", "abcdefgh a b .", "cut 0", "ok", "mend", "ok",
            "list", "b abcdefgh a .", "open b", "ok", "text", "new 1 1 3");
        // A root page that was written in part is not looked at as long as the turn is not.
        run(house, "keep q", "ok", "cut 40", "ok", "mend", "ok", "list", "b abcdefgh a .");
    }

    private static void rooms() {
        PuzzleHouse house = new PuzzleHouse();
        for (char c = 'a'; c < 'p'; c++) {
            run(house, "keep " + c, "ok");
        }
        run(house, "keep p", "no room", "keep a", "ok", "list", "b c d e f g h i j k l m n o a .", "import book 1/a new 1 1 1/1871", "ok",
            "list", "b c d e f g h i j k l m n o a .", "remove b", "ok", "keep p", "ok", "keep q", "no room", "cut 66", "no cut", "cut 65", "ok", "mend", "ok");
        due("state(5)", house.state(5), 15);
        // 354 bytes of text, the most there are, take twelve pages with a name of eight letters; 29 pages hold two such.
        StringBuilder text = new StringBuilder("new 3 3 4");
        for (int i = 0; i < 12; i++) {
            text.append(";rule count 99 0 1 2 3");
        }
        for (int i = 0; i < 9; i++) {
            text.append(";give ").append(i).append(" 3");
        }
        PuzzleHouse big = loaded(text.toString());
        run(big, "text", text.toString(), "keep abcdefgh", "ok", "keep b", "ok", "keep c", "no room", "keep b", "no room", "new 1 1 1", "ok", "keep c", "ok", "list", "abcdefgh b c .",
            "open b", "ok", "text", text.toString());
        due("pages", big.byteAt(big.byteAt(0, 0), 2), 12);
        due("chain", big.byteAt(big.byteAt(0, 0), 3), 15);
        due("length", big.byteAt(15, 3) * 256 + big.byteAt(15, 2), 354);
        String book = Talk.say(big, "export");
        run(big, "remove b", "ok", "remove abcdefgh", "ok", "remove c", "ok", "import " + book, "ok", "export", book);
    }

    private static void promise3Import() {
        part("promise 3, import");
        PuzzleHouse house = new PuzzleHouse();
        run(house, "export", "book 0/14257", "import book 0/14257", "ok", "import book 0/14258", "no check", "import book 1/14257", "no count",
            "import book 2/a new 1 1 1/26275", "no count", "import book 2/a new 1 1 1;give 3 0;give 0 9/b new 0 1 1/2307", "no cell",
            "import book 1/a new 2 1 2;each row unlike;give 1 0;give 0 1/11979", "ok", "text", "new 1 1 1", "export",
            "book 1/a new 2 1 2;rule unlike 0 1;give 0 1;give 1 0/" + check("book 1/a new 2 1 2;rule unlike 0 1;give 0 1;give 1 0/"),
            "remove a", "ok", "import book 2/a new 1 1 1/b new 2 1 2;rule unlike 0 1;give 0 1/55487", "ok",
            "export", "book 2/a new 1 1 1/b new 2 1 2;rule unlike 0 1;give 0 1/55487");
        StringBuilder many = new StringBuilder("book 16");
        for (char c = 'a'; c < 'q'; c++) {
            many.append("/x").append(c).append(" new 1 1 1");
        }
        many.append("/");
        run(house, "import " + many + check(many.toString()), "no room", "list", "a b xa xb xc xd xe xf xg xh xi xj xk xl xm .");
    }

    // ---- Promises 4 to 8 ----

    private static void promise4() {
        part("promise 4");
        PuzzleHouse house = new PuzzleHouse();
        run(house, "text", "new 1 1 1");
        due("answer(0)", house.answer(0), (int) 'n');
        due("answer(8)", house.answer(8), (int) '1');
        due("answer(9)", house.answer(9), -1);
        due("answer(-1)", house.answer(-1), -1);
        due("answer(max)", house.answer(Integer.MAX_VALUE), -1);
        due("answer(min)", house.answer(Integer.MIN_VALUE), -1);
        house.ask(1);
        due("answer(0) behind a call that did nothing", house.answer(0), (int) 'n');
        run(house, "list", ".");
        due("answer(1) of the latest one", house.answer(1), -1);
    }

    private static void promise5() {
        part("promise 5");
        PuzzleHouse house = loaded("new 3 3 3;each row unlike;each column unlike;give 0 0");
        Talk.say(house, "prove");
        Talk.feed(house, "text");
        due("checkAnswer", Talk.checkAnswer(house), "proof 4");
        due("state(6)", house.state(6), 20);
        due("state(7)", house.state(7), 7);
        due("the tape stays", house.ask(4), 126);
        due("checkAnswer", Talk.checkAnswer(house), "bad 6");
        due("checkAnswer", Talk.checkAnswer(house), "bad 7");
        run(house, "text", "new 3 3 3;rule unlike 0 1 2;rule unlike 3 4 5;rule unlike 6 7 8;rule unlike 0 3 6;rule unlike 1 4 7;rule unlike 2 5 8;give 0 0");
        PuzzleHouse broken = loaded("new 3 1 2;rule unlike 0 1;rule unlike 1 2;rule unlike 0 2");
        Talk.say(broken, "teach");
        due("checkAnswer", Talk.checkAnswer(broken), "proof 0");
        Talk.say(broken, "prove");
        due("checkAnswer", Talk.checkAnswer(broken), "proof 0");
        PuzzleHouse stuck = loaded("new 2 1 3;rule sum 2 0 1;rule unlike 0 1");
        Talk.say(stuck, "teach");
        due("checkAnswer", Talk.checkAnswer(stuck), "open");
    }

    private static void promise6() {
        part("promise 6");
        PuzzleHouse house = loaded("new 3 2 4;each pair unlike;rule unlike 0;give 0 1;give 5 0");
        run(house, "keep a", "ok", "keep b", "ok", "set a 3", "ok", "person 2", "ok", "put 1 0", "ok", "put 1 2", "ok", "undo", "ok");
        house.feed(0, 0, 0, 0, 0);
        states(house, 8, 2, 6, 4, 2, 2, 20, 2, 2, 1);
        due("state(10)", house.state(10), -1);
        due("state(-1)", house.state(-1), -1);
        due("state(max)", house.state(Integer.MAX_VALUE), -1);
        due("poke", house.poke(31, 31, 1), true);
        due("state(5)", house.state(5), -1);
        house.ask(0);
        run(house, "person 0", "ok");
        states(house, 8, 2, 6, 4, 0, -1, 0, 2, 0, 1);
    }

    private static void promise7() {
        part("promise 7");
        PuzzleHouse house = new PuzzleHouse();
        int[][] none = {{-1, 0}, {32, 0}, {0, -1}, {0, 32}, {Integer.MAX_VALUE, 0}, {0, Integer.MIN_VALUE}, {-1, 32}, {1, 32}};
        for (int[] at : none) {
            due("byteAt(" + at[0] + ", " + at[1] + ")", house.byteAt(at[0], at[1]), -1);
        }
        due("byteAt(31, 31)", house.byteAt(31, 31), 0);
        house.poke(31, 31, 255);
        due("byteAt(31, 31)", house.byteAt(31, 31), 255);
    }

    private static void promise8() {
        part("promise 8");
        PuzzleHouse house = new PuzzleHouse();
        int[][] none = {{-1, 0, 1}, {32, 0, 1}, {0, -1, 1}, {0, 32, 1}, {0, 0, 0}, {0, 0, 256}, {0, 0, -1}, {0, 0, Integer.MIN_VALUE}};
        for (int[] at : none) {
            due("poke(" + at[0] + ", " + at[1] + ", " + at[2] + ")", house.poke(at[0], at[1], at[2]), false);
        }
        due("state(5)", house.state(5), 0);
        run(house, "keep a", "ok");
        due("poke", house.poke(3, 1, 'a' ^ 'z'), true);
        due("state(5)", house.state(5), -1);
        run(house, "cut 0", "no cut", "list", "shut", "mend", "ok", "list", "z .");
        torn(house, 0, 0, 2, 3, "turn");
        torn(house, 0, 0, 2, 0, "turn");
        torn(house, 2, 31, 5, 6, "sum");
        torn(house, 2, 20, 0, 1, "sum");
        torn(house, 3, 0, 1, 0, "name's length");
        torn(house, 3, 0, 1, 9, "name's length");
        torn(house, 3, 1, 'z', 'Z', "name");
        torn(house, 3, 2, 9, 29, "text's length");
        torn(house, 3, 3, 0, 1, "text's length");
        torn(house, 3, 2, 9, 8, "text");
        torn(house, 3, 2, 9, 10, "text");
        torn(house, 3, 8, '1', '4', "size");
        torn(house, 3, 8, '1', '0', "size");
        // Bytes that are not looked at: of page 0, of the other root, behind a text, of free pages.
        int[][] free = {{0, 1}, {0, 31}, {1, 0}, {1, 31}, {3, 13}, {3, 31}, {9, 9}};
        for (int[] at : free) {
            due("poke", house.poke(at[0], at[1], 77), true);
            run(house, "mend", "ok", "list", "z .");
        }
        chains(house);
    }

    /** A byte is made another one: the book is torn; then it is made the same again. */
    private static void torn(PuzzleHouse house, int page, int i, int from, int to, String what) {
        part("promise 8, torn by its " + what);
        due("byteAt", house.byteAt(page, i), from);
        house.poke(page, i, from ^ to);
        run(house, "mend", "torn", "list", "shut");
        due("state(5)", house.state(5), -1);
        house.poke(page, i, from ^ to);
        run(house, "mend", "ok", "list", "z .");
    }

    private static void set(PuzzleHouse house, int page, int i, int value) {
        int is = house.byteAt(page, i);
        if (is != value) {
            due("poke", house.poke(page, i, is ^ value), true);
        }
    }

    /** Writes the root page (which is page 2) with its sum. */
    private static void root(PuzzleHouse house, int count, int... chains) {
        int sum = count;
        set(house, 2, 0, count);
        for (int i = 1; i < 31; i++) {
            int v = i - 1 < chains.length ? chains[i - 1] : 0;
            set(house, 2, i, v);
            sum += v;
        }
        set(house, 2, 31, sum % 251);
    }

    private static void chains(PuzzleHouse house) {
        part("promise 8, chains");
        root(house, 1, 3, 29);
        run(house, "mend", "ok", "list", "z .");
        // All pages are in the chain: none is free.
        run(house, "keep b", "no room");
        root(house, 1, 3, 30);
        run(house, "mend", "torn");
        root(house, 1, 3, 0);
        run(house, "mend", "torn");
        root(house, 1, 2, 2);
        run(house, "mend", "torn");
        root(house, 1, 32, 1);
        run(house, "mend", "torn");
        root(house, 1, 4, 1);
        run(house, "mend", "torn");
        root(house, 2, 3, 1, 3, 2);
        run(house, "mend", "ok", "list", "z z .", "find", "z z .", "remove z", "ok", "list", "z .");
        due("pages of the one that stays", house.byteAt(1, 2), 2);
        set(house, 0, 0, 2);
        root(house, 15, 3, 1, 3, 1, 3, 1, 3, 1, 3, 1, 3, 1, 3, 1, 3, 1, 3, 1, 3, 1, 3, 1, 3, 1, 3, 1, 3, 1, 3, 1);
        run(house, "mend", "ok", "list", "z z z z z z z z z z z z z z z .", "keep y", "no room", "keep z", "ok", "list", "z z z z z z z z z z z z z z z .");
        set(house, 0, 0, 2);
        root(house, 16, 3, 1, 3, 1, 3, 1, 3, 1, 3, 1, 3, 1, 3, 1, 3, 1, 3, 1, 3, 1, 3, 1, 3, 1, 3, 1, 3, 1, 3, 1);
        run(house, "mend", "torn");
        // What stands behind the entries of a root page is not looked at but for the sum.
        root(house, 1, 3, 1, 9, 9, 9);
        run(house, "mend", "ok", "list", "z .", "remove z", "ok", "list", ".");
        due("the other root page is whole", house.byteAt(1, 3), 0);
    }
}
