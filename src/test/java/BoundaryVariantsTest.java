/** Boundary cases of promise 3: variants, forms, covers and colours. */
public final class BoundaryVariantsTest extends Boundary {
    private BoundaryVariantsTest() {
    }

    public static void main(String[] args) {
        maps();
        renamings();
        vary();
        ordered();
        forms();
        finds();
        covers();
        barred();
        finish();
    }

    /** The text of a puzzle behind "vary N". */
    private static String varied(String text, int n) {
        PuzzleHouse house = loaded(text);
        run(house, "vary " + n, "ok");
        return Talk.say(house, "text");
    }

    private static void maps() {
        sentence(3, "The puzzle has MAPS 0 to 3, or 0 to 7 when W is H");
        String[] four = {"0 1 2", "1 0 3", "2 3 0", "3 2 1"};
        // Two across, three down; of these maps cells 0, 1, 2 become: as they are, the other side, the other end, both.
        String[] tall = {"0 1 2", "1 0 3", "4 5 2", "5 4 3"};
        for (int n = 0; n < 13; n++) {
            due("vary " + n, varied("new 2 3 2;rule rise 0 1 2", n), "new 2 3 2;rule rise " + tall[n % 4]);
        }
        due("vary 999", varied("new 2 3 2;rule rise 0 1 2", 999), "new 2 3 2;rule rise " + tall[3]);
        due("vary 998", varied("new 2 1 2;rule rise 0 1", 998), "new 2 1 2;rule rise 0 1");
        due("vary 997", varied("new 2 1 2;rule rise 0 1", 997), "new 2 1 2;rule rise 1 0");
        String[] eight = {four[0], four[1], four[2], four[3], "0 2 1", "2 0 3", "1 3 0", "3 1 2"};
        for (int n = 0; n < 25; n++) {
            due("vary " + n, varied("new 2 2 2;rule rise 0 1 2", n), "new 2 2 2;rule rise " + eight[n % 8]);
        }
        due("vary 999", varied("new 2 2 2;rule rise 0 1 2", 999), "new 2 2 2;rule rise " + eight[7]);
        due("vary 7 of one cell", varied("new 1 1 2;rule rise 0", 7), "new 1 1 2;rule rise 0");
    }

    private static void renamings() {
        sentence(3, "all rows of 0 to S - 1, when each rule is unlike, alike or count (or there is none); otherwise 0, 1, .. alone.");
        String[] three = {"012", "021", "102", "120", "201", "210"};
        for (String rules : new String[] {"", ";rule unlike 0 1 2", ";rule alike 0", ";rule count 1 0 1 2;rule unlike 0;rule alike 1"}) {
            for (int k = 0; k < 14; k++) {
                String row = three[k % 6];
                String want = "new 3 1 3" + rules + ";give 0 " + row.charAt(0) + ";give 1 " + row.charAt(1) + ";give 2 " + row.charAt(2);
                due("vary " + 4 * k, varied("new 3 1 3" + rules + ";give 0 0;give 1 1;give 2 2", 4 * k), want);
            }
        }
        for (String rule : new String[] {"rise 0", "joined 0", "sum 0 0", "apart 0 0", "seen 1 0", "unlike 1;rule rise 0"}) {
            String text = "new 3 1 3;rule " + rule + ";give 0 0;give 1 1;give 2 2";
            due("vary 4", varied(text, 4), text);
            due("vary 996", varied(text, 996), text);
        }
        // One symbol has one renaming, two have two, four have 24.
        due("vary 8", varied("new 1 1 1;give 0 0", 8), "new 1 1 1;give 0 0");
        due("vary 8", varied("new 1 1 2;give 0 0", 8), "new 1 1 2;give 0 1");
        due("vary 16", varied("new 1 1 2;give 0 0", 16), "new 1 1 2;give 0 0");
        String four = "new 2 2 4;give 0 0;give 1 1;give 2 2;give 3 3";
        due("vary 8", varied(four, 8), "new 2 2 4;give 0 0;give 1 1;give 2 3;give 3 2");
        due("vary 184: the last renaming", varied(four, 184), "new 2 2 4;give 0 3;give 1 2;give 2 1;give 3 0");
        due("vary 191: the last map, too", varied(four, 191), "new 2 2 4;give 0 0;give 1 2;give 2 1;give 3 3");
        due("vary 192: the first one again", varied(four, 192), four);
        // 999 is 124 times 8 and 7; 124 is five times 24 and 4: renaming 0 3 1 2, map 7.
        due("vary 999", varied(four, 999), "new 2 2 4;give 0 2;give 1 3;give 2 1;give 3 0");
    }

    private static void vary() {
        sentence(3, "vary N (which always changes it)");
        PuzzleHouse house = loaded("new 2 1 2;rule unlike 1 0;rule unlike 0 1");
        run(house, "put 0 1", "ok", "vary 0", "ok", "state", "..", "undo", "no step", "text", "new 2 1 2;rule unlike 1 0;rule unlike 0 1", "vary 1", "ok", "text",
            "new 2 1 2;rule unlike 0 1;rule unlike 1 0");
        sentence(3, "the puzzle becomes the variant of the map N modulo how many maps there are, and of the renaming (N by how many maps, without rest) modulo how many renamings (not ordered): \"ok\".");
        // 4 maps and 6 renamings: 24 is 0 again; 23 is map 3 and the last renaming, 3 the last map alone, 4 the next renaming.
        String six = "new 3 1 3;rule unlike 2 0;rule unlike 1;give 0 0;give 1 1";
        due("vary 24", varied(six, 24), six);
        due("vary 23", varied(six, 23), "new 3 1 3;rule unlike 0 2;rule unlike 1;give 1 1;give 2 2");
        due("vary 3", varied(six, 3), "new 3 1 3;rule unlike 0 2;rule unlike 1;give 1 1;give 2 0");
        due("vary 4", varied(six, 4), "new 3 1 3;rule unlike 2 0;rule unlike 1;give 0 0;give 1 2");
        due("vary 984", varied(six, 984), six);
        // However the puzzle came about.
        run(house, "new 3 1 3", "ok", "rule rise 0 1", "rule 0", "give 0 2", "ok", "vary 1", "ok", "text", "new 3 1 3;rule rise 2 1;give 2 2", "drop", "ok", "vary 5", "ok", "text", "new 3 1 3;give 0 1");
        house = loaded("new 3 3 2" + ";rule rise 0 1 2 5".repeat(12) + ";give 0 1");
        run(house, "vary 3", "ok", "text", "new 3 3 2" + ";rule rise 8 7 6 3".repeat(12) + ";give 8 1");
    }

    private static void ordered() {
        sentence(3, "the rules come in the order of their texts (as bytes, one that another one begins with ahead of that), of several with one text only one.");
        on("new 3 1 2;rule rise 1 2;rule rise 1 0;rule rise 1", "form", "new 3 1 2;rule rise 1;rule rise 1 0;rule rise 1 2");
        on("new 1 1 2;rule sum 2 0;rule sum 99 0;rule sum 10 0;rule sum 1 0;rule sum 9 0;rule sum 0 0;rule sum 90 0;rule sum 19 0", "form",
            "new 1 1 2;rule sum 0 0;rule sum 1 0;rule sum 10 0;rule sum 19 0;rule sum 2 0;rule sum 9 0;rule sum 90 0;rule sum 99 0");
        on("new 1 1 2;rule unlike 0;rule sum 0 0;rule seen 0 0;rule rise 0;rule joined 0;rule count 0 0;rule apart 0 0;rule alike 0", "form",
            "new 1 1 2;rule alike 0;rule apart 0 0;rule count 0 0;rule joined 0;rule rise 0;rule seen 0 0;rule sum 0 0;rule unlike 0");
        on("new 1 1 1" + ";rule unlike 0".repeat(12), "form", "new 1 1 1;rule unlike 0");
        on("new 2 1 2;rule unlike 0 1;rule alike 0 1;rule unlike 1 0;rule unlike 0 1;rule alike 1 0", "form", "new 2 1 2;rule alike 0 1;rule unlike 0 1");
        on("new 2 1 2;rule rise 0 1;rule rise 1 0;rule rise 0 1", "form", "new 2 1 2;rule rise 0 1;rule rise 1 0");
        sentence(3, "the cells of unlike, alike, joined and sum rise, of count those behind the first one");
        for (String kind : new String[] {"unlike", "alike", "joined", "sum 3"}) {
            on("new 2 2 2;rule " + kind + " 3 1 0 2", "form", "new 2 2 2;rule " + kind + " 0 1 2 3");
        }
        on("new 2 2 2;rule count 2 0 3 2 1", "form", "new 2 2 2;rule count 2 0 1 2 3");
        on("new 3 1 2;rule count 2 1 2", "form", "new 3 1 2;rule count 2 1 0");
        on("new 3 1 2;rule count 2 1 2 0", "form", "new 3 1 2;rule count 2 1 0 2");
        on("new 2 2 2;rule count 2 3 2 1 0;rule count 2 3 0 1 2", "form", "new 2 2 2;rule count 2 0 1 2 3");
        for (String kind : new String[] {"rise", "apart 2", "seen 2"}) {
            on("new 2 2 2;rule " + kind + " 0 3 2 1", "form", "new 2 2 2;rule " + kind + " 0 3 1 2");
        }
    }

    private static void forms() {
        sentence(3, "THE FORM is the least (in the same order) of THE TEXTS of all its variants, when they are ordered.");
        on("new 1 1 1", "form", "new 1 1 1");
        on("new 3 3 4", "form", "new 3 3 4");
        on("new 1 1 4;give 0 3", "form", "new 1 1 4;give 0 0");
        on("new 1 1 4;rule seen 1 0;give 0 3", "form", "new 1 1 4;rule seen 1 0;give 0 3");
        // "rule unlike 0 1" is less than "rule unlike 0;" since a blank is less than ";".
        on("new 2 1 2;rule unlike 0 1;rule unlike 0", "form", "new 2 1 2;rule unlike 0 1;rule unlike 1");
        // The rule at the end of a text, with and without a given behind it.
        on("new 2 1 2;rule rise 1;give 0 1", "form", "new 2 1 2;rule rise 0;give 1 1");
        // Two across and three down: x and y are not exchanged.
        on("new 2 3 2;rule rise 2", "form", "new 2 3 2;rule rise 2");
        on("new 2 3 2;rule rise 3", "form", "new 2 3 2;rule rise 2");
        on("new 2 1 2;rule rise 1", "form", "new 2 1 2;rule rise 0");
        on("new 3 2 2;rule rise 4", "form", "new 3 2 2;rule rise 1");
        on("new 2 3 2;rule sum 1 0 1;give 0 0", "form", "new 2 3 2;rule sum 1 0 1;give 0 0");
        on("new 2 1 2;rule sum 1 0 1;give 0 0", "form", "new 2 1 2;rule sum 1 0 1;give 0 0");
        on("new 2 1 2;rule sum 1 0 1;give 1 0", "form", "new 2 1 2;rule sum 1 0 1;give 0 0");
        on("new 2 2 3;give 3 2;give 1 0", "form", "new 2 2 3;give 0 0;give 1 1");
        on("new 2 2 3;give 3 2;give 0 2", "form", "new 2 2 3;give 0 0;give 3 0");
        PuzzleHouse house = loaded("new 3 3 2;each pair unlike;give 8 1");
        String text = Talk.say(house, "text");
        run(house, "form", text.substring(0, text.length() - 9) + ";give 0 0", "text", text);
        smallForms();
        sentence(3, "Puzzles with one form are THE SAME.");
        house = loaded("new 3 3 3;rule count 2 0 1 2;rule unlike 4 8;give 3 2;give 7 0");
        String form = Talk.say(house, "form");
        for (int n = 0; n < 48; n++) {
            run(house, "vary " + n, "ok", "form", form);
        }
        due("a form is its own form", Talk.say(loaded(form), "form"), form);
    }

    /** All pairs of rules of the three cells in a row, held against the Model, which tries all variants as texts. */
    private static void smallForms() {
        String[] cells = {" 0", " 1", " 2", " 0 1", " 0 2", " 1 0", " 1 2", " 2 0", " 2 1", " 0 1 2", " 0 2 1", " 1 0 2", " 1 2 0", " 2 0 1", " 2 1 0"};
        PuzzleHouse house = new PuzzleHouse();
        for (String kind : new String[] {"rise", "unlike", "count 2", "seen 10"}) {
            for (String first : cells) {
                for (String second : cells) {
                    String text = "new 3 1 2;rule " + kind + first + ";rule " + kind + second + ";give 2 1";
                    Model.Grid grid = new Model.Grid();
                    Model.load(grid, text);
                    run(house, "load " + text, "ok", "form", Model.form(grid));
                }
            }
        }
    }

    private static void finds() {
        sentence(3, "find: \"shut\" when the book is not open; the names of its entries whose puzzles are the same as this one, in their order, each followed by a blank, then \".\".");
        PuzzleHouse house = loaded("new 2 3 3;rule rise 0 1;give 5 1");
        run(house, "find", ".", "keep b", "ok", "find", "b .", "vary 3", "ok", "keep a", "ok", "find", "b a .", "give 5 1", "ok", "find", ".", "load new 3 2 3;rule rise 0 3;give 5 1", "ok",
            "find", ".", "load new 2 3 4;rule rise 0 1;give 5 1", "ok", "find", ".", "load new 2 3 3;rule rise 1 0;rule rise 1 0;give 4 1", "ok", "find", "b a .");
        due("poke", house.poke(31, 0, 1), true);
        run(house, "find", "shut", "mend", "ok", "find", "b a .");
        house = new PuzzleHouse();
        String[] others = {"new 1 1 2", "new 2 1 2", "new 1 2 2", "new 2 2 2", "new 2 2 3", "new 1 1 2;rule alike 0", "new 1 1 2;rule unlike 0", "new 1 1 2;rule alike 0;rule unlike 0",
            "new 1 1 2;rule sum 1 0", "new 1 1 2;rule sum 10 0", "new 1 1 2;rule sum 1 0;give 0 0", "new 1 1 2;rule sum 1 0;give 0 1"};
        for (int i = 0; i < others.length; i++) {
            run(house, "load " + others[i], "ok", "keep " + (char) ('a' + i), "ok");
        }
        for (int i = 0; i < others.length; i++) {
            run(house, "load " + others[i], "ok", "find", (char) ('a' + i) + " .");
        }
    }

    private static void covers() {
        sentence(3, "cover N: \"no number\" when N is above 100; the first N covers, each as its rules rising, with \"+\" between, and a blank behind, then \"all\" when there are no more than these, else \"more\".");
        on("new 1 1 1", "cover 0", "all", "cover 1", "all", "cover 100", "all", "cover 101", "no number", "cover 999", "no number");
        on("new 1 1 1;rule unlike 0", "cover 0", "more", "cover 1", "0 all", "cover 2", "0 all");
        on("new 1 1 1" + ";rule unlike 0".repeat(12), "cover 11", "0 1 2 3 4 5 6 7 8 9 10 more", "cover 12", "0 1 2 3 4 5 6 7 8 9 10 11 all");
        // Three rules for each of four cells: 81 covers, the most that twelve rules have.
        PuzzleHouse house = loaded("new 2 2 1" + ";rule unlike 0".repeat(3) + ";rule unlike 1".repeat(3) + ";rule unlike 2".repeat(3) + ";rule unlike 3".repeat(3));
        String all = Talk.say(house, "cover 81");
        due("bytes of 81 covers", all.length(), 27 * 8 + 54 * 9 + 3);
        due("their beginning", all.substring(0, 26), "0+3+6+9 0+3+6+10 0+3+6+11 ");
        due("their end", all.substring(all.length() - 21), "2+5+8+10 2+5+8+11 all");
        run(house, "cover 100", all, "cover 82", all, "cover 80", all.substring(0, all.length() - 12) + "more", "cover 0", "more");
        on("new 3 3 1;each row unlike;rule unlike 0;rule unlike 1;rule unlike 2", "cover 9", "0+1+2 1+2+3+4+5 all");
        StringBuilder single = new StringBuilder("new 3 3 1");
        for (int c = 8; c >= 0; c--) {
            single.append(";rule unlike ").append(c);
        }
        on(single.toString(), "cover 1", "0+1+2+3+4+5+6+7+8 all");
        sentence(3, "A COVER is a set of rules of which each cell is a cell of just one");
        on("new 2 1 1;rule unlike 0 1;rule unlike 1", "cover 9", "0 all");
        on("new 2 1 1;rule unlike 0;rule unlike 0", "cover 9", "all");
        on("new 3 1 1;rule unlike 0 1;rule unlike 1 2", "cover 9", "all");
    }

    private static void barred() {
        sentence(3, "the first one for which the colours of the cells of each rule add up to a multiple of M, but those of all cells do not: \"barred M D\", D the row's digits; \"open\" when there is none.");
        on("new 1 1 1", "barred", "barred 2 1");
        on("new 3 3 4", "barred", "barred 2 000000001");
        on("new 1 1 1;rule unlike 0", "barred", "open");
        on("new 2 1 1;rule unlike 0 1", "barred", "open");
        on("new 2 1 1;rule unlike 1", "barred", "barred 2 10");
        // With M 2 all four are alike, and add up; with M 3 those of 1, 2, 3 are what is missing at 0.
        on("new 2 2 2;rule unlike 0 1;rule unlike 0 2;rule unlike 0 3", "barred", "barred 3 1222");
        on("new 3 3 1;each row unlike;each column unlike", "barred", "open");
        on("new 3 3 1;each pair unlike", "barred", "barred 2 111111111");
        // All three are alike with M 2.
        on("new 3 1 1;rule unlike 0 1;rule unlike 1 2;rule unlike 0 2", "barred", "barred 2 111");
        // When 0 has 0, so has 3, and 1 and 2 are alike: all add up. So the row begins with 1, and 3 has 1, too.
        on("new 2 2 1;rule unlike 0 1 2;rule unlike 1 2 3;rule unlike 0 3", "barred", "barred 2 1011");
    }
}
