/** Boundary cases of promise 3: the tree, steps, proofs and lessons, and of promise 5: which lines are right. */
public final class BoundaryReasonsTest extends Boundary {
    private BoundaryReasonsTest() {
    }

    public static void main(String[] args) {
        goingOn();
        tree();
        longTrees();
        longProofs();
        longLessons();
        hints();
        steps();
        ends();
        lessons();
        literals();
        givenAndRuleLines();
        lineOfTwo();
        units();
        answerLines();
        verdicts();
        finish();
    }

    private static void goingOn() {
        sentence(3, "the first one that is out is taken from its cell; again from the first rule on; until none is out, or a cell may have nothing: then the standing CAN'T BE.");
        // Once cell 0 may have nothing rule 1 takes nothing any more.
        on("new 2 1 2;rule seen 2 0;rule sum 0 1", "prove", "r0 -0.0;r0 -0.1;u;", "grade", "2 1 0", "solve", "broken 2 0 0", "teach", "r0 -0.0;r0 -0.1;u;");
        on("new 1 1 1;rule seen 2 0", "prove", "r0 -0.0;u;", "grade", "1 1 0");
        // Rule 1 takes a symbol, so that rule 0 takes one ahead of rule 2.
        on("new 3 1 2;rule alike 0 1;rule sum 0 1;rule sum 1 2", "prove", "r1 -1.1;r0 -0.1 +1.1;r2 -2.0;b -0.0 -1.0 -2.1;u;", "grade", "3 1 0");
        // Of a rule's cells in its order, of the symbols rising.
        on("new 2 1 2;rule rise 1 0", "prove", "r0 -1.1;r0 -0.0 +1.1;b -0.1 -1.0;u;");
        // 28 symbols, the most that can be taken: all but one of each of nine cells, and the last one of cell 8.
        on("new 3 3 4;rule sum 0 0 1 2 3;rule sum 0 4 5 6 7;rule sum 3 8;rule rise 8 0", "grade", "28 1 0", "solve", "broken 28 0 0");
        String most = Talk.say(loaded("new 3 3 4;rule sum 0 0 1 2 3;rule sum 0 4 5 6 7;rule sum 3 8;rule rise 8 0"), "prove");
        on("new 3 3 4;rule sum 0 0 1 2 3;rule sum 0 4 5 6 7;rule sum 3 8;rule rise 8 0", "teach", most);
        due("the end of its proof", most.endsWith(";r2 -8.0;r2 -8.1;r2 -8.2;r3 -8.3 +0.1 +0.2 +0.3;u;"), true);
        on("new 1 1 4;rule sum 2 0", "prove", "r0 -0.0;r0 -0.1;r0 -0.3;b -0.2;u;");
        on("new 1 1 1", "prove", "b -0.0;u;", "grade", "0 1 0");
    }

    private static void tree() {
        sentence(3, "Else the CELL OF CHOICE is that which may have fewest symbols of those that may have more than one, of alike ones the least");
        on("new 2 1 2", "grade", "0 7 2", "prove", "b -0.0 -1.0;u -0.0 -1.0;b -0.0 -1.1;u -0.0 -1.1;u -0.0;b -0.1 -1.0;u -0.1 -1.0;b -0.1 -1.1;u -0.1 -1.1;u -0.1;u;");
        // Cells 1 and 2 may have two symbols, cell 0 three: 1 is chosen ahead of 0.
        on("new 3 1 3;rule apart 2 1 2", "grade", "2 9 2", "prove", "r0 -1.1;r0 -2.1 +1.1;r0 -2.0 +1.1 +1.2;b -0.0 -1.0 -2.2;u -1.0 -0.0;b -0.1 -1.0 -2.2;u -1.0 -0.1"
            + ";b -0.2 -1.0 -2.2;u -1.0 -0.2;u -1.0;r0 -2.2 +1.0 +1.1;b -0.0 -1.2 -2.0;u -1.2 -0.0;b -0.1 -1.2 -2.0;u -1.2 -0.1;b -0.2 -1.2 -2.0;u -1.2 -0.2;u -1.2;u;");
        // Cell 0 may have one symbol alone: it is fewest, but no choice.
        on("new 2 1 3;give 0 1", "grade", "0 4 1", "prove", "g0 +0.1;b -0.1 -1.0;u -1.0;b -0.1 -1.1;u -1.1;b -0.1 -1.2;u -1.2;u;");
    }

    private static void longTrees() {
        sentence(3, "THE TREE is LONG when it has more than 100 nodes.");
        // Cells 0, 1, 4, 5 are free, and 0 is beside neither 4 nor 5. With 0 having 1 they may not: 1 + 2 + 4 + 12 nodes;
        // with 0 or 2 nothing is out any more: 1 + 3 + 9 + 27, twice; and the first node: 100.
        on("new 3 2 3;rule joined 5 0 4;give 3 2;give 2 0", "grade", "0 100 4");
        // 3, 0, 1, 2 follow each other. 0 having 1: 1 with 1: 1 + 3 + 9, else 2 may not: 1 + 2 + 6, twice: 32 in all. Otherwise,
        // twice: 1 with 1: 3 may not: 1 + 2 + 6, else, twice: 2 with 1: 1 + 2, with others 1 + 3, twice: 12: 34. 1 + 32 + 68 are 101.
        on("new 3 2 3;rule joined 2 1 3 0;give 5 1;give 4 1", "grade", "long", "prove", "long");
        sentence(3, "\"A B C\": A how many symbols are taken at the first node, B how many nodes, C the most choices of a node; \"long\" when the tree is long.");
        on("new 3 3 1", "grade", "0 1 0");
        on("new 2 2 4;give 0 0", "grade", "0 85 3");
        on("new 2 2 4", "grade", "long");
        on("new 3 3 4", "grade", "long");
        on("new 3 2 2", "grade", "long");
        on("new 3 2 2;give 5 1", "grade", "0 63 5");
        on("new 3 3 4;rule seen 2 8", "grade", "4 1 0");
        on("new 3 3 4;rule sum 0 0 1 2 3;rule sum 0 4 5 6 7;rule sum 3 8", "grade", "27 1 0");
        // Nine choices, the most there can be: no cell is greater than the one ahead, so that a 0 settles all behind it.
        StringBuilder falling = new StringBuilder("new 3 3 2");
        for (int c = 0; c < 8; c++) {
            falling.append(";rule seen 1 ").append(c).append(" ").append(c + 1);
        }
        on(falling.toString(), "grade", "0 19 9", "many", "10");
        PuzzleHouse house = loaded(falling.toString());
        Talk.say(house, "prove");
        due("checkAnswer of nine choices", Talk.checkAnswer(house), "proof 10");
        // What the tree ahead of it had does not matter to the next one.
        run(house, "new 3 3 4", "ok", "grade", "long", "prove", "long", "new 1 1 2", "ok", "grade", "0 3 1", "prove", "b -0.0;u -0.0;b -0.1;u -0.1;u;", "new 1 1 1", "ok", "grade", "0 1 0",
            "new 3 3 4", "ok", "prove", "long", "teach", ".", "new 1 1 1", "ok", "teach", "b -0.0;u;");
    }

    private static Model model(String text) {
        Model model = new Model();
        Model.load(model.grid, text);
        return model;
    }

    private static void longProofs() {
        sentence(3, "prove: THE PROOF, as THE GRAMMAR has it; \"long\" when the tree is long, or it has more than 3,000 bytes.");
        // A line g of 8 bytes, 32 lines b of 32, lines u of 2 + 5 for each choice.
        due("bytes of a proof", Talk.say(loaded("new 3 2 2;give 0 0"), "prove").length(), 8 + 32 * 32 + 2 + 14 + 48 + 136 + 352 + 864);
        // Found by a search; the Model has the proof without a limit.
        String most = "new 3 3 2;rule joined 7 1 6 4;rule sum 1 8 1 2 3;rule alike 0;give 2 0;give 6 1";
        due("bytes of the Model's proof", model(most).tree().length(), 3000);
        on(most, "prove", model(most).tree().toString());
        // The same tree as above of nine cells: lines b have 47 bytes; g of 8, r of 8 and 13, then four of 13: 3,001.
        String over = "new 3 3 2;rule alike 1 5;rule rise 8 2;give 4 1";
        due("bytes of the Model's proof", model(over).tree().length(), 3001);
        on(over, "grade", "2 63 5", "prove", "long");
        PuzzleHouse house = loaded(most);
        Talk.say(house, "prove");
        due("checkAnswer of the longest proof", Talk.checkAnswer(house), "proof " + Talk.say(loaded(most), "many"));
    }

    private static void longLessons() {
        sentence(3, "teach: THE LESSON likewise; \"long\" when it has more than 3,000 bytes; \".\" when it has no lines.");
        // Found by a search; the Model has the lessons without a limit.
        String most = "new 3 3 4;rule count 2 5 0 2;rule unlike 1 8 3 4;rule unlike 1 3;rule unlike 1 3 4;rule count 2 1 5;rule unlike 4 2;rule unlike 1 8 2;rule sum 4 5 2 8";
        due("bytes of the Model's lesson", model(most).lesson().length(), 3000);
        on(most, "teach", model(most).lesson());
        String over = "new 3 3 4;rule unlike 0 5;rule unlike 6 8;rule unlike 5 4 8 7;rule apart 2 5 1 3;rule apart 2 3 8 0;rule unlike 2 0;rule sum 4 5 8 2;rule apart 1 4 2 3";
        due("bytes of the Model's lesson", model(over).lesson().length(), 3001);
        on(over, "teach", "long");
        // After one of its steps this one has just 3,000 bytes, but it goes on.
        String within = "new 3 3 4;rule sum 6 5 2 7;rule apart 1 6 4;rule apart 2 1 0 8 4;rule unlike 2 8;rule unlike 1 0 6 7;rule apart 1 0 7;rule apart 2 7 4 3";
        due("the 3,000th byte of the Model's lesson", model(within).lesson().charAt(2999), ';');
        on(within, "teach", "long");
        on("new 1 1 2", "teach", ".");
        on("new 3 3 4;each row unlike", "teach", ".");
        on("new 1 1 2;give 0 1", "teach", "g0 +0.1;b -0.1;u;");
        on("new 2 1 2;give 0 1", "teach", "g0 +0.1;");
        PuzzleHouse house = loaded("new 1 1 2");
        Talk.say(house, "teach");
        due("checkAnswer of \".\"", Talk.checkAnswer(house), "bad 6");
        house = loaded("new 3 3 4");
        Talk.say(house, "prove");
        due("checkAnswer of \"long\"", Talk.checkAnswer(house), "bad 6");
    }

    private static void hints() {
        sentence(3, "of the rules in order, of each of its cells in order: \"can't\" when all symbols that it may have are out by that rule");
        on("new 1 1 1;rule seen 0 0", "hint", "can't");
        on("new 2 1 2;rule seen 0 0;rule sum 1 1", "hint", "can't");
        on("new 2 1 2;rule sum 1 1;rule seen 0 0", "hint", "hint 1 1 0");
        on("new 2 1 2;rule unlike 0 1;give 0 0;give 1 0", "hint", "can't");
        on("new 2 1 2;rule unlike 0 1", "put 0 0", "ok", "put 1 0", "ok", "hint", "can't", "undo", "ok", "hint", "hint 1 1 0");
        sentence(3, "\"hint C S K\" when it may have more than one, and all but S are out by rule K; the first of these; \"none\" when there is none.");
        on("new 1 1 1", "hint", "none");
        on("new 1 1 1;rule seen 1 0", "hint", "none");
        on("new 2 1 3;rule rise 0 1", "hint", "none");
        on("new 2 1 2;rule rise 1 0", "hint", "hint 1 0 0");
        on("new 2 2 4;rule unlike 0 1 2 3", "hint", "none");
        on("new 2 2 4;rule unlike 0 1 2 3;rule sum 0 3", "hint", "hint 3 0 1");
        // A rule that went counts no more.
        on("new 1 1 2;rule sum 1 0", "hint", "hint 0 1 0", "drop", "ok", "hint", "none", "step", "stuck", "solve", "stuck 0 0 0", "teach", ".", "grade", "0 3 1");
        on("new 3 1 2;rule unlike 0 1;rule sum 1 2", "hint", "hint 2 1 1");
        on("new 3 3 2" + ";rule unlike 0 1".repeat(11) + ";rule seen 2 7 8", "hint", "hint 7 0 11");
        on("new 2 1 2;rule unlike 0 1;give 0 0;give 1 1", "hint", "none");
        on("new 1 1 4;rule sum 3 0", "hint", "hint 0 3 0", "put 0 3", "ok", "hint", "none", "put 0 2", "ok", "hint", "can't");
        // Two are left of four: no hint.
        on("new 2 1 4;rule apart 2 0 1;give 0 3", "hint", "none", "give 0 2", "ok", "hint", "hint 1 0 0");
    }

    private static void steps() {
        sentence(3, "TWO: of two rules R and Q, R less than Q, that have a cell in common and at most six cells together, by R, then Q");
        // All of 0 to 3 are alike, 2 and 3 are not: six cells together. Each symbol of cell 0 is taken so but the last one, by
        // which 2 and 3 break: ONE takes it from 1, 2, 3 each time, and when 2 and 3 have two left, those of 4 and 5.
        on("new 3 2 4;rule alike 0 1 2 3;rule unlike 2 3 4 5", "step", "two 0 0 0 1", "solve", "broken 14 3 0");
        // In the order of R's cells, then those of Q that are not of R.
        on("new 2 1 3;rule sum 2 1 0;rule unlike 0 1", "step", "two 1 1 0 1");
        on("new 3 2 2;rule unlike 1 0;rule joined 5 0 1", "step", "two 5 1 0 1");
        on("new 2 1 3;rule sum 2 0 1;rule unlike 0 1", "step", "two 0 1 0 1", "drop", "ok", "step", "stuck", "rule alike 0", "rule 1", "step", "stuck");
        // By R, then Q: rules 0 and 1 have nothing out, nor 0 and 2; 1 and 2 have.
        on("new 3 2 2;rule unlike 3 0;rule unlike 0 1;rule joined 5 0 1", "step", "two 5 1 1 2");
        sentence(3, "TRY: of the cells that may have more than one symbol, by numbers, of these symbols, rising, the first one");
        on("new 3 1 2;rule unlike 0 1;rule unlike 1 2;rule unlike 0 2", "step", "try 0 0", "solve", "broken 3 0 1");
        // Cell 0 may have both; of 1, 2, 3 none may have anything, and cell 1 is the first of them.
        on("new 2 2 2;rule unlike 1 2;rule unlike 2 3;rule unlike 1 3", "step", "try 1 0", "solve", "broken 3 0 1");
    }

    private static void ends() {
        sentence(3, "It ends BROKEN, when a cell may have nothing, SOLVED, when there is no step and each cell may have one symbol alone, otherwise STUCK, when there is no step.");
        on("new 1 1 1", "solve", "solved 0 0 0", "step", "solved");
        on("new 3 3 1", "solve", "solved 0 0 0");
        on("new 1 1 2", "solve", "stuck 0 0 0", "step", "stuck");
        on("new 1 1 1;rule seen 0 0", "solve", "broken 1 0 0", "step", "one 0 0 0");
        on("new 1 1 2;rule sum 1 0", "solve", "solved 1 0 0");
        sentence(3, "A, B, C how many steps were ONE, TWO, TRY (the last one, too, by which it is broken).");
        on("new 1 1 4;rule seen 0 0", "solve", "broken 4 0 0");
        on("new 1 1 2;rule sum 1 0", "put 0 0", "ok", "solve", "broken 1 0 0", "step", "one 0 0 0", "put 0 1", "ok", "solve", "solved 0 0 0", "step", "solved");
        sentence(3, "without any \"solved\" when each cell may have one symbol alone, else \"stuck\"");
        on("new 2 1 2", "put 0 1", "ok", "step", "stuck", "put 1 0", "ok", "step", "solved", "person 1", "ok", "step", "stuck");
        on("new 2 1 2;give 0 0;give 1 1", "step", "solved");
    }

    private static void lessons() {
        sentence(3, "Behind the last step: SOLVED: a line b with - c . s for each cell c, by numbers, and a line u without literals; BROKEN: a line u without literals.");
        on("new 1 1 1", "teach", "b -0.0;u;");
        on("new 1 1 1;give 0 0", "teach", "g0 +0.0;b -0.0;u;", "prove", "g0 +0.0;b -0.0;u;");
        on("new 1 1 1;rule seen 0 0", "teach", "r0 -0.0;u;");
        on("new 1 1 2;rule sum 1 0", "teach", "r0 -0.0;b -0.1;u;");
        on("new 2 1 3;rule sum 2 0 1;rule unlike 0 1", "teach", "w0 1 -0.1;r0 -1.1 +0.1;");
        on("new 3 1 2;rule unlike 0 1;rule unlike 1 2;rule unlike 0 2", "teach",
            "r0 -1.0 +0.1;r1 -2.1 +1.0;r2 -0.0 +2.1;u -0.0;r0 -1.1 +0.0;r1 -2.0 +1.1;r2 -0.1 +2.0;u;");
        // What is entered does not matter: it is the first node's standing.
        on("new 1 1 2", "put 0 1", "ok", "teach", ".", "prove", "b -0.0;u -0.0;b -0.1;u -0.1;u;", "grade", "0 3 1");
    }

    private static void literals() {
        sentence(5, "A line is RIGHT, all lines ahead of it being so, when all its cells and symbols are there, no literal is there twice");
        PuzzleHouse house = loaded("new 2 1 2;rule rise 0 1;give 0 0");
        for (String line : new String[] {"g0 +0.0", "r0 +0.0", "u -0.0 -0.1"}) {
            run(house, "check " + line + ";", "open", "check " + line + " +1.1;", "open", "check " + line + " -1.1;", "open", "check " + line + " +2.0;", "line 0",
                "check " + line + " -2.0;", "line 0", "check " + line + " +1.2;", "line 0", "check " + line + " -1.2;", "line 0", "check " + line + " +999.999;", "line 0",
                "check " + line + " +1.0 +1.0;", "line 0", "check " + line + " -1.0 -1.0;", "line 0", "check " + line + " +1.0 -1.0;", "open",
                "check " + line + " +1.0 -1.0 +1.0;", "line 0", "check " + line + " +4.0;", "line 0", "check " + line + " +0.4;", "line 0", "check " + line + " +9.0;", "line 0");
        }
        run(house, "check b -0.0 -1.1;", "open", "check b -0.0 -1.1 -1.1;", "line 0", "check b -0.0 -1.1 -2.0;", "line 0", "check b -0.0 -1.5;", "line 0");
        on("new 3 3 4", "check u +8.0 +8.1 +8.2 +8.3;", "open", "check u +9.0 +9.1 +9.2 +9.3;", "line 0", "check u +8.0 +8.1 +8.2;", "line 0",
            "check u -8.3 -8.0;", "open", "check u -8.4 -8.0;", "line 0");
    }

    private static void givenAndRuleLines() {
        sentence(5, "g c: cell c is given, and + c . s, s its given, is one of its literals.");
        on("new 3 3 4;give 8 3", "check g8 +8.3;", "open", "check g8;", "line 0", "check g8 -8.3;", "line 0", "check g8 +8.2;", "line 0", "check g8 +8.2 +8.3;", "open",
            "check g8 +0.0 -1.1 +8.3;", "open", "check g7 +8.3;", "line 0", "check g7 +7.3;", "line 0", "check g9 +8.3;", "line 0", "check g999 +8.3;", "line 0",
            "check g0 +8.3;", "line 0", "check g1 +0.3;", "line 0", "check g8 +7.3;", "line 0");
        on("new 2 1 2;give 0 0", "check g0 +0.0;", "open", "check g0 -0.0;", "line 0", "check g1 +1.0;", "line 0");
        sentence(5, "r n: there is a rule n, and in each way to fill its cells (with any symbols) that meets it one of the literals of its cells at least is so.");
        on("new 2 1 2", "check r0;", "line 0", "check r0 +0.0;", "line 0");
        on("new 3 1 2;rule rise 0 1", "check r0 +0.0;", "open", "check r1 +0.0;", "line 0", "check r12 +0.0;", "line 0", "check r999 +0.0;", "line 0", "check r0;", "line 0",
            "check r0 +1.0;", "line 0", "check r0 +2.0 +2.1;", "line 0", "check r0 -2.0 -2.1;", "line 0", "check r0 +2.0 -0.1;", "open");
        on("new 2 1 3;rule rise 0 1", "check r0 +0.0;", "line 0", "check r0 +0.0 +0.1;", "open", "check r0 -0.2;", "open", "check r0 -0.0 +1.1 +1.2;", "open",
            "check r0 -0.0 +1.1;", "line 0", "check r0 -0.0 -0.1;", "open");
        // A rule that no way meets: any literals, or none.
        on("new 1 1 1;rule seen 0 0", "check r0;", "open", "check r0 +0.0;", "open", "check r0;u;", "proof 0", "check r0 +0.0;u;", "line 1", "check r0;", "open");
        on("new 3 3 4" + ";rule sum 3 8".repeat(12), "check r11 +8.3;", "open", "check r12 +8.3;", "line 0");
        // With any symbols: what is given does not matter.
        on("new 2 1 2;rule unlike 0 1;give 0 0", "check r0 +1.1;", "line 0", "check r0 +1.1 +0.1;", "open");
    }

    private static void lineOfTwo() {
        sentence(5, "w n k: there are rules n and k, n less than k, with at most six cells together");
        String text = "new 3 3 2;rule alike 0 1 2 3;rule alike 3 4 5;rule alike 3 4 5 6;rule alike 4 5;rule alike 4 5 6";
        // 0 and 1 have six cells together, 0 and 2 seven, of which one is common; 0 and 3 six, 0 and 4 seven, and none common.
        on(text, "check w0 1 -0.0 +5.0;", "open", "check w0 2 -0.0 +5.0;", "line 0", "check w0 3 -0.0 +1.0;", "open", "check w0 4 -0.0 +1.0;", "line 0",
            "check w2 4 -3.0 +6.0;", "open", "check w3 4 -4.0 +5.0;", "open", "check w1 0 -0.0 +5.0;", "line 0", "check w0 0 -0.0 +1.0;", "line 0",
            "check w0 5 -0.0 +1.0;", "line 0", "check w5 6 -0.0 +1.0;", "line 0", "check w0 999 -0.0 +1.0;", "line 0", "check w3 4;", "line 0",
            "check w3 4 -3.0 +3.0;", "line 0", "check w1 2 -3.0 +6.0;", "open");
        on("new 2 1 2;rule alike 0 1;rule unlike 0 1", "check w0 1;", "open", "check w0 1;u;", "proof 0", "check r0;", "line 0");
        on("new 1 1 2;rule sum 1 0", "check w0 1 +0.1;", "line 0", "check w0 0 +0.1;", "line 0", "check r0 +0.1;", "open");
        // Rules of the same four cells, and two that have one unmet alone.
        on("new 2 2 4;rule unlike 0 1 2 3;rule unlike 3 2 1 0;rule seen 0 0", "check w0 1 -0.0 -1.0;", "open", "check w0 1 -0.0 +1.0;", "line 0", "check w0 2;", "open");
    }

    private static void units() {
        sentence(5, "of - c . s nothing but s (of what it still may have: with - c . s and - c . t nothing is left)");
        on("new 1 1 3", "check u -0.0 -0.1;", "open", "check u -0.0;", "line 0", "check u -0.0 +0.0;", "open", "check u +0.0 -0.0;", "open", "check u +0.0 -0.1;", "line 0",
            "check u +0.0 +0.1;", "line 0", "check u +0.0 +0.1 +0.2;", "open", "check u -0.0 -0.1 -0.2;", "open", "check u;", "line 0");
        on("new 1 1 1", "check u +0.0;", "open", "check u -0.0;", "line 0", "check u;", "line 0");
        sentence(5, "when each one IS NOT (or it has none), it CAN'T BE; when just one is open it is made so.");
        on("new 2 1 2;rule unlike 0 1;rule seen 0 0", "check r1;u;", "proof 0", "check r0 +0.0 +1.0;u +0.0 -1.1;", "open", "check r0 +0.0 +1.0;u +0.0;", "line 1",
            "check r0 +0.0 +1.0;r0 +0.1 +1.1;u +0.0;", "line 2", "check r0 +0.0 +1.0;r0 +0.1 +1.1;u +0.0 +1.0;", "open", "check r0 +0.0 +1.0;r0 -0.0 -1.0;u;", "line 2");
        // One open literal more than one: nothing is made so, even when both are of one cell.
        on("new 2 1 3;rule sum 0 0 1", "check r0 +0.0 +0.1;u;", "line 1", "check r0 +0.0 +0.1;u +0.0;", "line 1", "check r0 +0.0 +0.1;u +0.0 +0.1;", "open",
            "check r0 +0.0;r0 -0.1;u -0.2;", "open", "check r0 +0.0;u -0.1;", "open", "check r0 -0.1;r0 -0.2;u +0.0;", "open", "check r0 -0.1;u +0.0;", "line 1");
        // Two symbols left, of which the greatest one is not the only one.
        on("new 2 1 4;rule rise 0 1", "check r0 -0.3;u +0.1 +0.2;", "line 1", "check r0 -0.3;u +0.0 +0.2;", "line 1", "check r0 -0.3;u +0.0 +0.1;", "line 1", "check r0 -0.3;u +0.0 +0.1 +0.2;", "open",
            "check r0 -0.3;u +0.0;", "line 1", "check r0 -0.3;u -0.3;", "open");
        sentence(5, "Then, as long as something changes, and no cell may have nothing: of the lines ahead, of which no literal IS SO");
        // From cell 0 on each leads to the next one, in an order in which the two ends come together in the fifth round.
        String chain = "new 3 3 2;rule alike 0 1;rule alike 1 2;rule alike 2 3;rule alike 3 4;rule alike 4 5;rule alike 5 6;rule alike 6 7;rule alike 7 8;rule sum 1 0";
        String[] order = {"r3 -3.1 +4.1;", "r4 -4.1 +5.1;", "r2 -2.1 +3.1;", "r5 -5.1 +6.1;", "r1 -1.1 +2.1;", "r6 -6.1 +7.1;", "r0 -0.1 +1.1;", "r7 -7.1 +8.1;", "r8 +0.1;"};
        on(chain, "check " + String.join("", order) + "u +8.1;", "open", "check " + String.join("", order) + "u;", "line 9", "check " + String.join("", order) + "u -8.1;", "line 9",
            "check " + String.join("", order) + "u +8.1;u -8.1;", "line 10");
        for (int left = 0; left < 9; left++) {
            on(chain, "check " + String.join("", order).replace(order[left], "") + "u +8.1;", "line 8");
        }
        // A line u is one of the lines ahead of the next one.
        on("new 1 1 2;rule sum 1 0", "check r0 -0.0;u +0.1;u -0.0;", "open", "check u +0.1;r0 -0.0;", "line 0", "check b -0.1;u -0.1;r0 -0.0;u;", "proof 1");
    }

    private static void answerLines() {
        sentence(5, "b: it has just one literal for each cell, - c . s, and these s are an answer.");
        on("new 2 1 2;rule rise 0 1", "check b -0.0 -1.1;", "open", "check b -1.1 -0.0;", "open", "check b;", "line 0", "check b -0.0;", "line 0", "check b -1.1;", "line 0",
            "check b -0.0 -1.1 -0.1;", "line 0", "check b -0.0 -0.1;", "line 0", "check b +0.0 -1.1;", "line 0", "check b -0.0 -1.1 +0.1;", "line 0",
            "check b -0.1 -1.0;", "line 0", "check b -0.0 -1.0;", "line 0");
        on("new 2 1 2;rule rise 0 1;give 0 1", "check b -0.0 -1.1;", "line 0");
        on("new 2 1 2;give 0 1", "check b -0.1 -1.1;", "open", "check b -0.0 -1.1;", "line 0");
        on("new 2 1 2;give 0 0", "check b -0.1 -1.1;", "line 0", "check b -0.0 -1.1;", "open");
        on("new 1 1 1", "check b -0.0;", "open");
        on("new 3 3 1", "check b -0.0 -1.0 -2.0 -3.0 -4.0 -5.0 -6.0 -7.0 -8.0;u;", "proof 1", "check b -0.0 -1.0 -2.0 -3.0 -4.0 -5.0 -6.0 -7.0;u;", "line 0");
    }

    private static void verdicts() {
        sentence(5, "check P: \"line K\" when line K (from 0 on) is the first that is not right");
        on("new 1 1 2", "check u;", "line 0", "check b -0.0;u;", "line 1", "check b -0.0;u;b;", "line 1", "check b;u;", "line 0", "check b -0.0;b -0.1;u;", "proof 2",
            "check b -0.0;b -0.1;u;g0 +0.0;", "line 3", "check b -0.0;b -0.1;u;r0;u;", "line 3");
        sentence(5, "\"open\" when all are right, but the last one has literals, or is not of kind u");
        on("new 1 1 2", "check b -0.0;", "open", "check b -0.0;b -0.1;", "open", "check b -0.0;b -0.1;u +0.0;", "open", "check b -0.0;b -0.1;u;u +0.0;", "open",
            "check b -0.0;b -0.1;u;b -0.0;", "open", "check b -0.0;b -0.1;u;u;", "proof 2");
        on("new 1 1 1;rule seen 0 0", "check u +0.0;", "open", "check r0;", "open", "check r0;u;r0;", "open", "check r0;u -0.0;", "open");
        sentence(5, "else \"proof N\", N how many different fillings its lines b tell.");
        on("new 1 1 2", "check b -0.0;b -0.0;b -0.1;b -0.0;b -0.1;u;", "proof 2");
        on("new 2 1 2;rule unlike 0 1", "check b -0.0 -1.1;b -1.1 -0.0;b -1.0 -0.1;r0 -0.0 -1.0;r0 -0.1 -1.1;u -0.0;u;", "proof 2");
        on("new 1 1 1;rule seen 0 0", "check r0;u;", "proof 0");
        // 81 answers, each told once, then all beginnings of fillings, from the longest ones on.
        StringBuilder lines = new StringBuilder();
        for (int i = 0; i < 81; i++) {
            lines.append("b -0.").append(i / 27).append(" -1.").append(i / 9 % 3).append(" -2.").append(i / 3 % 3).append(" -3.").append(i % 3).append(";");
        }
        on("new 2 2 3", "check " + lines + "u;", "line 81");
        for (int i = 0; i < 27; i++) {
            lines.append("u -0.").append(i / 9).append(" -1.").append(i / 3 % 3).append(" -2.").append(i % 3).append(";");
        }
        for (int i = 0; i < 9; i++) {
            lines.append("u -0.").append(i / 3).append(" -1.").append(i % 3).append(";");
        }
        on("new 2 2 3", "check " + lines + "u -0.0;u -0.1;u -0.2;u;", "proof 81", "check " + lines + "u -0.0;u -0.2;u;", "proof 81");
    }
}
