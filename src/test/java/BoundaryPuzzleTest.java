import java.math.BigInteger;

/** Boundary cases of promise 3: the puzzle, its rules and givens, its answers, and puzzles made by a seed. */
public final class BoundaryPuzzleTest extends Boundary {
    private BigInteger drawn;

    private BoundaryPuzzleTest(int seed) {
        drawn = BigInteger.valueOf(seed);
    }

    public static void main(String[] args) {
        sizes();
        rules();
        eachOnes();
        beside();
        comparing();
        counting();
        joined();
        givens();
        loads();
        answers();
        clashes();
        least();
        refusedMakes();
        makes();
        finish();
    }

    private static void sizes() {
        sentence(3, "THE PUZZLE has W by H CELLS (1 to 3 each; cell x + W y), SYMBOLS 0 to S - 1 (S from 1 to 4)");
        PuzzleHouse house = new PuzzleHouse();
        for (int w = 1; w <= 3; w++) {
            for (int h = 1; h <= 3; h++) {
                for (int s = 1; s <= 4; s++) {
                    int cells = w * h;
                    run(house, "new " + w + " " + h + " " + s, "ok", "give " + (cells - 1) + " " + (s - 1), "ok", "give " + cells + " 0", "no cell",
                        "give 0 " + s, "no symbol", "text", "new " + w + " " + h + " " + s + ";give " + (cells - 1) + " " + (s - 1));
                    states(house, 0, 1, cells, s);
                }
            }
        }
        sentence(3, "new W H S: \"no size\" when one is not so; else the puzzle is anew without rules and givens: \"ok\".");
        run(house, "load new 2 3 2;rule unlike 0 5;give 3 1", "ok", "put 0 1", "ok");
        for (int code = 0; code < 1000; code++) {
            int w = code / 100;
            int h = code / 10 % 10;
            int s = code % 10;
            if (w < 1 || w > 3 || h < 1 || h > 3 || s < 1 || s > 4) {
                run(house, "new " + w + " " + h + " " + s, "no size");
                states(house, 1, 1, 6, 2, 1);
            }
        }
        run(house, "text", "new 2 3 2;rule unlike 0 5;give 3 1", "state", "1..1..", "new 2 3 2", "ok", "text", "new 2 3 2", "state", "......");
    }

    private static void rules() {
        sentence(3, "at most 12 RULES, numbered from 0 on, each of one to four CELLS (none twice, in the order told)");
        PuzzleHouse house = loaded("new 2 2 4");
        String[] cells = {"0", "3", "3 0", "2 1 0", "3 2 1 0", "0 1 2 3", "1 3", "2", "1 2 3", "0 3 1 2", "3 1", "2 0"};
        StringBuilder text = new StringBuilder("new 2 2 4");
        for (int i = 0; i < 12; i++) {
            run(house, "rule rise " + cells[i], "rule " + i);
            text.append(";rule rise ").append(cells[i]);
            due("state(0)", house.state(0), i + 1);
        }
        run(house, "text", text.toString());
        sentence(3, "\"no room\" with 12 rules; else it comes behind the others: \"rule K\".");
        run(house, "rule unlike 0", "no room", "text", text.toString(), "drop", "ok", "rule alike 0 1", "rule 11", "rule unlike 0", "no room");
        due("state(0)", house.state(0), 12);
        sentence(3, "rule ..: \"no cell\" when there is none such, one is there twice, or there are more than four");
        run(house, "new 3 2 2", "ok", "rule unlike 5", "rule 0", "rule unlike 6", "no cell", "rule unlike 9", "no cell", "rule unlike 999", "no cell",
            "rule unlike 0 6", "no cell", "rule unlike 0 1 2 6", "no cell", "rule unlike 0 0", "no cell", "rule unlike 0 1 0", "no cell",
            "rule unlike 1 2 3 1", "no cell", "rule unlike 0 1 2 3", "rule 1", "rule unlike 0 1 2 3 4", "no cell", "rule sum 3 0 1 2 3 4", "no cell",
            "rule unlike 0 1 2 3 4 5", "no cell", "rule unlike 0 1 2 3 0", "no cell", "rule sum 9 5", "rule 2", "text",
            "new 3 2 2;rule unlike 5;rule unlike 0 1 2 3;rule sum 9 5");
        sentence(3, "\"no number\" when that of sum, count, apart or seen is above 99");
        for (String kind : new String[] {"sum", "count", "apart", "seen"}) {
            run(house, "new 2 1 2", "ok", "rule " + kind + " 100 0", "no number", "rule " + kind + " 999 0 1", "no number", "rule " + kind + " 99 0", "rule 0",
                "rule " + kind + " 0 1", "rule 1", "each row " + kind + " 100", "no number", "each row " + kind + " 99", "rules 1",
                "text", "new 2 1 2;rule " + kind + " 99 0;rule " + kind + " 0 1;rule " + kind + " 99 0 1");
        }
        sentence(3, "(when several things are refused the one told first)");
        run(house, "load new 1 1 1" + ";rule unlike 0".repeat(12), "ok", "rule sum 100 1", "no cell", "rule sum 100 0 0", "no cell", "rule sum 100 0", "no number",
            "rule sum 99 0", "no room", "rule unlike 1", "no cell", "each row sum 100", "no number", "each row sum 99", "no room", "give 1 1", "no cell",
            "put 1 1", "no cell", "mark 1 1", "no cell");
        sentence(3, "drop: \"no rule\"; else the last rule goes: \"ok\".");
        run(house, "load new 2 1 2;rule unlike 0;rule rise 0 1;give 0 1", "ok", "drop", "ok", "text", "new 2 1 2;rule unlike 0;give 0 1", "many", "2", "drop", "ok",
            "drop", "no rule", "text", "new 2 1 2;give 0 1", "rule rise 1 0", "rule 0", "many", "1");
    }

    private static void eachOnes() {
        sentence(3, "\"no room\" when there would be more than 12 rules");
        PuzzleHouse house = loaded("new 3 3 2;each row unlike;each column unlike;each row alike");
        run(house, "each column sum 1", "rules 3");
        due("state(0)", house.state(0), 12);
        run(house, "each row unlike", "no room", "each column unlike", "no room", "drop", "ok", "each row unlike", "no room", "drop", "ok", "drop", "ok",
            "each row seen 1", "rules 3", "new 3 3 2", "ok", "rule unlike 0", "rule 0", "each pair unlike", "no room", "text", "new 3 3 2;rule unlike 0",
            "drop", "ok", "each pair unlike", "rules 12", "drop", "ok");
        due("state(0)", house.state(0), 11);
        run(house, "each pair unlike", "no room");
        due("state(0)", house.state(0), 11);
        sentence(3, "in order, a rule of that kind comes behind the others: \"rules K\", K how many came by it.");
        run(house, "new 1 1 2", "ok", "each pair unlike", "rules 0", "each row rise", "rules 1", "each column sum 0", "rules 1", "text",
            "new 1 1 2;rule rise 0;rule sum 0 0");
        // With twelve rules none more has room, but that no pair comes is no rule more.
        run(house, "load new 1 1 2" + ";each row unlike".repeat(12), "ok", "each pair unlike", "rules 0", "each row unlike", "no room", "each column unlike", "no room");
        run(house, "new 1 3 2", "ok", "each row alike", "rules 3", "each column rise", "rules 1", "each pair apart 9", "rules 2", "text",
            "new 1 3 2;rule alike 0;rule alike 1;rule alike 2;rule rise 0 1 2;rule apart 9 0 1;rule apart 9 1 2");
        run(house, "new 3 1 2", "ok", "each row alike", "rules 1", "each column rise", "rules 3", "each pair count 2", "rules 2", "text",
            "new 3 1 2;rule alike 0 1 2;rule rise 0;rule rise 1;rule rise 2;rule count 2 0 1;rule count 2 1 2");
        sentence(3, "or each pair of cells beside each other (the lesser one ahead; by that, then by the other one)");
        run(house, "new 3 2 2", "ok", "each pair rise", "rules 7", "text",
            "new 3 2 2;rule rise 0 1;rule rise 0 3;rule rise 1 2;rule rise 1 4;rule rise 2 5;rule rise 3 4;rule rise 4 5");
        run(house, "new 2 3 2", "ok", "each pair rise", "rules 7", "text",
            "new 2 3 2;rule rise 0 1;rule rise 0 2;rule rise 1 3;rule rise 2 3;rule rise 2 4;rule rise 3 5;rule rise 4 5");
    }

    private static void beside() {
        sentence(3, "Two cells are BESIDE each other when one step across or down leads from one to the other.");
        // Not beside: the end of a row and the beginning of the next one, across a corner, two steps away.
        on("new 3 2 2;rule joined 2 3", "many", "48");
        on("new 3 3 2;rule joined 5 6", "many", "384");
        on("new 2 2 2;rule joined 0 3", "many", "12");
        on("new 2 2 2;rule joined 1 2", "many", "12");
        on("new 3 1 2;rule joined 0 2", "many", "6");
        on("new 1 3 2;rule joined 0 2", "many", "6");
        on("new 3 3 2;rule joined 0 8", "many", "384");
        // Beside.
        on("new 3 2 2;rule joined 2 5", "many", "64");
        on("new 3 3 2;rule joined 8 5", "many", "512");
        on("new 1 3 2;rule joined 2 1", "many", "8");
        on("new 2 2 2;rule joined 3 2", "many", "16");
    }

    private static void comparing() {
        sentence(3, "unlike: no two are alike; alike: all are; rise: each is greater than the one ahead");
        on("new 3 1 2;rule unlike 1", "many", "8");
        on("new 3 1 2;rule unlike 0 1 2", "many", "0");
        on("new 3 1 3;rule unlike 2 0 1", "many", "6");
        on("new 2 2 4;rule unlike 0 1 2 3", "many", "24");
        on("new 2 2 3;rule unlike 0 1 2 3", "many", "0");
        on("new 3 1 2;rule alike 1", "many", "8");
        on("new 2 2 4;rule alike 3 1 2 0", "answers 9", "0000 1111 2222 3333 all");
        on("new 3 1 2;rule rise 1", "many", "8");
        on("new 2 1 2;rule rise 0 1", "answers 9", "01 all");
        on("new 2 1 1;rule rise 0 1", "many", "0");
        on("new 2 2 4;rule rise 0 1 2 3", "answers 9", "0123 all");
        on("new 2 2 4;rule rise 3 2 1 0", "answers 9", "3210 all");
        on("new 2 2 3;rule rise 0 1 2 3", "many", "0");
        sentence(3, "apart n: each differs from the one ahead by n at least (whichever is greater)");
        on("new 2 1 4;rule apart 0 0 1", "many", "16");
        on("new 2 1 4;rule apart 1 0 1", "many", "12");
        on("new 2 1 4;rule apart 2 0 1", "answers 9", "02 03 13 20 30 31 all");
        on("new 2 1 4;rule apart 3 0 1", "answers 9", "03 30 all");
        on("new 2 1 4;rule apart 4 0 1", "many", "0");
        on("new 2 1 4;rule apart 99 0", "many", "16");
        // Each one and the one ahead, not the first and the last one.
        on("new 3 1 3;rule apart 2 0 1 2", "answers 9", "020 202 all");
        on("new 3 1 4;rule apart 3 0 1 2", "answers 9", "030 303 all");
    }

    private static void counting() {
        sentence(3, "sum n: they add up to n");
        on("new 2 2 4;rule sum 0 0 1 2 3", "answers 9", "0000 all");
        on("new 2 2 4;rule sum 12 0 1 2 3", "answers 9", "3333 all");
        on("new 2 2 4;rule sum 13 0 1 2 3", "many", "0");
        on("new 2 2 4;rule sum 11 0 1 2 3", "answers 9", "2333 3233 3323 3332 all");
        on("new 1 1 4;rule sum 3 0", "answers 9", "3 all");
        on("new 1 1 4;rule sum 4 0", "many", "0");
        on("new 1 1 4;rule sum 99 0", "many", "0");
        on("new 2 1 2;rule sum 2 0 1", "answers 9", "11 all");
        sentence(3, "count n: just n of the cells, the first one counted, have the symbol of the first one");
        on("new 2 1 3;rule count 0 0", "many", "0");
        on("new 2 1 3;rule count 1 0", "many", "9");
        on("new 2 1 3;rule count 2 0", "many", "0");
        on("new 2 1 3;rule count 2 1 0", "answers 9", "00 11 22 all");
        on("new 2 2 2;rule count 4 0 1 2 3", "answers 9", "0000 1111 all");
        on("new 2 2 2;rule count 5 0 1 2 3", "many", "0");
        on("new 2 2 2;rule count 1 2 0 1 3", "answers 9", "0010 1101 all");
        on("new 1 1 1;rule count 99 0", "many", "0");
        sentence(3, "seen n: just n of the cells, the first one counted, have a symbol greater than those of all cells ahead");
        on("new 2 1 3;rule seen 0 0", "many", "0");
        on("new 2 1 3;rule seen 1 0", "many", "9");
        on("new 2 1 3;rule seen 2 0", "many", "0");
        on("new 2 1 2;rule seen 1 0 1", "answers 9", "00 10 11 all");
        on("new 2 1 2;rule seen 2 0 1", "answers 9", "01 all");
        on("new 2 2 4;rule seen 4 0 1 2 3", "answers 9", "0123 all");
        on("new 2 2 3;rule seen 4 0 1 2 3", "many", "0");
        // Of all cells ahead, not of the one just ahead: 1 0 1 is seen once.
        on("new 3 1 2;rule seen 1 0 1 2", "answers 9", "000 100 101 110 111 all");
        on("new 3 1 3;rule seen 3 0 1 2", "answers 9", "012 all");
    }

    private static void joined() {
        sentence(3, "joined: those of the cells that have symbol 1 hang together, from one to another of them that is beside it (or there is at most one).");
        on("new 3 3 1;rule joined 0 8", "many", "1");
        on("new 2 1 2;rule joined 0", "many", "4");
        on("new 3 1 2;rule joined 0 2", "answers 9", "000 001 010 011 100 110 all");
        // Only the rule's cells hang together: cell 1 leads from 0 to 2 when it is one of them and has symbol 1.
        on("new 3 1 2;rule joined 0 2;give 1 1", "answers 9", "010 011 110 all");
        on("new 3 1 2;rule joined 2 0 1;give 1 1", "answers 9", "010 011 110 111 all");
        on("new 3 1 3;rule joined 0 1 2;give 1 2", "answers 9", "020 021 022 120 122 220 221 222 all");
        // 0, 1, 2, 5 are a row with a bend: what hangs together are one to four that follow each other, or none.
        on("new 3 2 2;rule joined 5 0 2 1;give 3 0;give 4 0", "many", "11");
        on("new 3 2 2;rule joined 0 1 2 5;give 3 1;give 4 1", "many", "11");
        on("new 3 2 2;rule alike 3;rule sum 0 4 3;rule joined 1 5 0 2", "many", "11");
        on("new 3 2 2" + ";rule sum 0 3 4".repeat(11) + ";rule joined 2 0 5 1", "many", "11");
        // What hangs together by one rule tells nothing of the next one.
        on("new 3 1 2;rule joined 0 1;rule joined 0 2", "many", "6");
        // Seven ways for each row, less three times seven times three in which 0 and 8 have 1.
        on("new 3 3 2;each row joined;rule joined 0 8", "many", "280");
        // A ring of four: all but the two that stand across.
        on("new 2 2 2;rule joined 0 3 1 2", "many", "14");
        on("new 3 3 2;rule joined 0 2 6 8;give 1 1;give 3 1;give 4 1;give 5 1;give 7 1", "many", "5");
    }

    private static void givens() {
        sentence(3, "give C S: \"no cell\", \"no symbol\"; else the given is told, or with \"-\" not any more: \"ok\".");
        PuzzleHouse house = loaded("new 3 3 4");
        run(house, "give 8 3", "ok", "give 9 0", "no cell", "give 9 -", "no cell", "give 9 4", "no cell", "give 999 0", "no cell", "give 8 4", "no symbol",
            "give 8 9", "no symbol", "text", "new 3 3 4;give 8 3", "give 8 0", "ok", "text", "new 3 3 4;give 8 0");
        due("state(1)", house.state(1), 1);
        run(house, "give 8 -", "ok", "give 8 -", "ok", "give 0 -", "ok", "text", "new 3 3 4");
        due("state(1)", house.state(1), 0);
        for (int c = 8; c >= 0; c--) {
            run(house, "give " + c + " " + c % 4, "ok");
        }
        due("state(1)", house.state(1), 9);
        run(house, "text", "new 3 3 4;give 0 0;give 1 1;give 2 2;give 3 3;give 4 0;give 5 1;give 6 2;give 7 3;give 8 0", "answers 1", "012301230 all",
            "new 1 1 1", "ok", "give 0 1", "no symbol", "give 0 0", "ok");
    }

    private static void loads() {
        sentence(3, "load T: when something of T is refused: that answer, nothing is done");
        PuzzleHouse house = loaded("new 2 1 2;rule rise 0 1");
        run(house, "put 0 1", "ok", "load new 0 1 1", "no size", "load new 1 1 5", "no size", "load new 2 2 2;rule unlike 4", "no cell", "load new 2 2 2;rule unlike 0 0", "no cell",
            "load new 3 3 2;rule unlike 0 1 2 3 4", "no cell", "load new 2 2 2;rule sum 100 0", "no number", "load new 2 2 2;each row seen 100", "no number",
            "load new 2 2 2;give 4 0", "no cell", "load new 2 2 2;give 0 2", "no symbol", "load new 1 1 1" + ";rule unlike 0".repeat(13), "no room",
            "load new 3 3 1;rule unlike 0;each pair alike", "no room", "text", "new 2 1 2;rule rise 0 1", "state", "1.");
        // The first part that is refused tells the answer, whatever follows.
        run(house, "load new 4 1 1;give 9 9", "no size", "load new 1 1 1;give 0 1;give 1 0", "no symbol", "load new 1 1 1;give 1 0;give 0 1", "no cell",
            "load new 1 1 1;give 0 0;rule sum 100 0;rule unlike 1", "no number", "text", "new 2 1 2;rule rise 0 1", "state", "1.");
        sentence(3, "else the puzzle becomes the one that comes of doing all that T says in order: \"ok\".");
        run(house, "load new 1 1 1", "ok", "text", "new 1 1 1", "load new 2 1 3;give 0 1;rule rise 0 1;give 0 0;give 1 2;each pair unlike;give 1 1", "ok", "text",
            "new 2 1 3;rule rise 0 1;rule unlike 0 1;give 0 0;give 1 1", "load new 1 1 1" + ";rule unlike 0".repeat(12), "ok");
        due("state(0)", house.state(0), 12);
        run(house, "load " + longestText(), "ok", "text", longestText(), "many", "0");
        // Nothing is left of the rules of the puzzle ahead of it, which were looked at.
        run(house, "load new 2 2 4;rule alike 0 1 2 3;rule rise 0 1", "ok", "many", "0", "load new 2 2 4;rule sum 0 0 1 2 3", "ok", "answers 9", "0000 all", "cover 9", "0 all",
            "load new 2 2 4;rule alike 3", "ok", "many", "256", "cover 9", "all", "load new 2 2 4;rule alike 3;rule alike 0 1 2", "ok", "many", "16", "cover 9", "0+1 all",
            "load new 1 1 4;rule sum 3 0", "ok", "answers 9", "3 all", "load new 1 1 4;rule seen 1 0;give 0 0", "ok", "answers 9", "0 all", "load new 1 1 4", "ok", "many", "4");
    }

    private static void answers() {
        sentence(3, "answers N: \"no number\" when N is above 100; else the first N answers in order, each followed by a blank");
        // Two pairs of which the second one is not greater: ten times ten answers.
        PuzzleHouse house = loaded("new 2 2 4;rule seen 1 0 1;rule seen 1 2 3");
        run(house, "many", "100", "answers 101", "no number", "answers 102", "no number", "answers 999", "no number", "pick 99", "3333", "pick 100", "none", "pick 10", "1000",
            "pick 9", "0033", "pick 999999", "none");
        String all = Talk.say(house, "answers 100");
        due("bytes of 100 answers", all.length(), 503);
        due("their end", all.substring(490), "3332 3333 all");
        due("their beginning", all.substring(0, 15), "0000 0010 0011 ");
        due("99 answers", Talk.say(house, "answers 99"), all.substring(0, 495) + "more");
        on("new 2 2 4", "many", "256", "answers 101", "no number");
        due("bytes of the first 100 answers", Talk.say(loaded("new 2 2 4"), "answers 100").length(), 504);
        due("the end of them", Talk.say(loaded("new 2 2 4"), "answers 100").substring(490), "1202 1203 more");
        due("bytes of 100 answers of nine cells", Talk.say(loaded("new 3 3 4"), "answers 100").length(), 1004);
        sentence(3, "then \"all\" when there are no more answers than these (with N 0: none at all), else \"more\".");
        on("new 1 1 2", "answers 0", "more", "answers 1", "0 more", "answers 2", "0 1 all", "answers 3", "0 1 all");
        on("new 1 1 2;rule sum 9 0", "answers 0", "all", "answers 1", "all", "answers 100", "all");
        on("new 1 1 2;give 0 1", "answers 0", "more", "answers 1", "1 all");
        sentence(3, "many: how many answers there are. pick K: answer K; \"none\" when there is none such.");
        on("new 3 3 4", "many", "262144", "pick 0", "000000000", "pick 262143", "333333333", "pick 262144", "none", "pick 1", "000000001", "pick 65536", "100000000");
        on("new 3 3 1", "many", "1", "pick 0", "000000000", "pick 1", "none");
        on("new 2 1 2;give 0 1", "many", "2", "pick 0", "10", "pick 1", "11", "pick 2", "none");
        on("new 2 1 4;give 1 3", "many", "4", "pick 0", "03", "pick 3", "33", "pick 4", "none");
        // Rules that hang together from the last one on, and some that do not.
        on("new 3 1 2;rule unlike 1 2;rule unlike 0 1", "many", "2", "pick 1", "101", "pick 2", "none");
        on("new 3 3 2;rule unlike 7 8;rule unlike 6 7;rule unlike 5 6;rule unlike 4 5;rule unlike 3 4;rule unlike 2 3;rule unlike 1 2;rule unlike 0 1", "many", "2", "pick 1", "101010101");
        on("new 3 3 2;rule unlike 8 0;rule unlike 7 1;rule unlike 6 2;rule unlike 5 3", "many", "32", "pick 31", "111110000", "pick 32", "none");
        on("new 1 1 4;rule seen 0 0", "many", "0", "pick 0", "none");
        on("new 3 3 4;rule rise 8 7;rule rise 6 5", "many", "36864", "pick 36863", "333333232", "pick 36864", "none");
    }

    private static void clashes() {
        sentence(3, "clash: \"none\" when there is an answer");
        on("new 1 1 1", "clash", "none");
        on("new 2 1 2;rule unlike 0 1;give 0 0;give 1 1", "clash", "none");
        sentence(3, "(none, maybe; the puzzle stays)");
        on("new 1 1 2;rule sum 9 0", "clash", "clash");
        on("new 1 1 2;rule sum 9 0;give 0 1", "clash", "clash", "text", "new 1 1 2;rule sum 9 0;give 0 1");
        on("new 2 1 2;rule unlike 0 1;give 0 1;give 1 1", "clash", "clash 0 1", "text", "new 2 1 2;rule unlike 0 1;give 0 1;give 1 1");
        on("new 2 1 2;rule sum 1 0;give 0 0;give 1 0", "clash", "clash 0");
        sentence(3, "of the given cells by numbers, each one is left out for good without which there is still no answer");
        on("new 3 1 2;rule alike 0 1;rule alike 1 2;give 0 0;give 1 1;give 2 0", "clash", "clash 1 2");
        on("new 3 3 2;rule alike 0 8;give 0 0;give 8 1;give 1 1;give 4 1;give 7 1", "clash", "clash 0 8");
    }

    private static void least() {
        sentence(3, "least: \"not one\" unless there is just one answer");
        on("new 1 1 2", "least", "not one");
        on("new 1 1 2;rule sum 9 0;give 0 0", "least", "not one", "text", "new 1 1 2;rule sum 9 0;give 0 0");
        on("new 2 1 2;give 0 1", "least", "not one", "text", "new 2 1 2;give 0 1");
        sentence(3, "each given goes without which there is still just one answer: \"least K\", K how many remain.");
        on("new 1 1 1", "least", "least 0");
        on("new 3 3 1;give 0 0;give 8 0", "least", "least 0", "text", "new 3 3 1");
        on("new 2 1 2;give 0 1;give 1 0", "least", "least 2", "text", "new 2 1 2;give 0 1;give 1 0");
        on("new 3 1 2;rule alike 0 1 2;give 0 1;give 1 1;give 2 1", "least", "least 1", "text", "new 3 1 2;rule alike 0 1 2;give 2 1");
    }

    private static void refusedMakes() {
        sentence(3, "make N K: \"no kind\" when K is not 0 or 1; \"none\" when the puzzle without its givens has no answer");
        PuzzleHouse house = loaded("new 2 1 2;rule unlike 0 1;give 0 0;give 1 0");
        for (int k = 2; k <= 9; k++) {
            run(house, "make 0 " + k, "no kind");
        }
        run(house, "text", "new 2 1 2;rule unlike 0 1;give 0 0;give 1 0", "make 0 0", "made 1", "make 999 1", "made 2");
        on("new 1 1 2;rule sum 9 0;give 0 1", "make 0 0", "none", "make 0 1", "none", "make 0 2", "no kind", "text", "new 1 1 2;rule sum 9 0;give 0 1");
        on("new 1 1 1", "make 0 0", "made 0", "make 999 1", "made 0", "text", "new 1 1 1");
    }

    private int draw(int below) {
        drawn = drawn.multiply(new BigInteger("6364136223846793005")).add(new BigInteger("1442695040888963407")).mod(BigInteger.ONE.shiftLeft(64));
        return drawn.shiftRight(33).mod(BigInteger.valueOf(below)).intValue();
    }

    /** What is drawn is worked out with numbers that do not wrap, and cut to 64 bits by hand. */
    private static void makes() {
        sentence(3, "R becomes R * 6364136223846793005 + 1442695040888963407 (wrapping), then (R >>> 33) modulo m.");
        for (int seed : new int[] {0, 1, 2, 3, 4, 5, 9, 10, 99, 100, 998, 999}) {
            // Without rules each given must stay, so that all cells tell which answer was drawn.
            int answer = new BoundaryPuzzleTest(seed).draw(262144);
            StringBuilder text = new StringBuilder("new 3 3 4");
            for (int c = 0; c < 9; c++) {
                text.append(";give ").append(c).append(" ").append(answer >> 2 * (8 - c) & 3);
            }
            on("new 3 3 4", "make " + seed + " 0", "made 9", "text", text.toString(), "make " + seed + " 1", "made 9", "text", text.toString());
        }
        sentence(3, "(a draw below 1 is a draw, too)");
        for (int seed = 0; seed < 20; seed++) {
            on("new 2 1 2;rule rise 0 1;give 0 1", "make " + seed + " 0", "made 0", "text", "new 2 1 2;rule rise 0 1", "make " + seed + " 1", "made 0");
        }
        sentence(3, "for i from the last place to place 1: a draw below i + 1: the cells at places i and that one are exchanged");
        for (int seed = 0; seed <= 999; seed += seed < 20 ? 1 : 89) {
            // All cells alike: the given of the row's last cell is the one that must stay.
            BoundaryPuzzleTest draws = new BoundaryPuzzleTest(seed);
            int symbol = draws.draw(2);
            int[] row = draws.row(6);
            on("new 3 2 2;rule alike 0 1 2;rule alike 2 3 4 5", "make " + seed + " 0", "made 1", "text",
                "new 3 2 2;rule alike 0 1 2;rule alike 2 3 4 5;give " + row[5] + " " + symbol);
        }
        sentence(3, "its given goes, and with K 1 that of the cell W H - 1 less it, too; when there is more than one answer then, they come back.");
        for (int seed = 0; seed < 20; seed++) {
            BoundaryPuzzleTest draws = new BoundaryPuzzleTest(seed);
            int symbol = draws.draw(2);
            // The middle cell goes alone: when it is the first one, the others can't go any more.
            boolean middleFirst = draws.row(3)[0] == 1;
            String left = middleFirst ? ";give 0 " + symbol + ";give 2 " + symbol : ";give 1 " + symbol;
            on("new 3 1 2;rule alike 0 1 2", "make " + seed + " 1", middleFirst ? "made 2" : "made 1", "text", "new 3 1 2;rule alike 0 1 2" + left);
        }
    }

    private int[] row(int cells) {
        int[] row = new int[cells];
        for (int c = 0; c < cells; c++) {
            row[c] = c;
        }
        for (int i = cells - 1; i >= 1; i--) {
            int j = draw(i + 1);
            int c = row[i];
            row[i] = row[j];
            row[j] = c;
        }
        return row;
    }
}
