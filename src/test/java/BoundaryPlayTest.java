/** Boundary cases of promise 3: play of three persons, and the contest. */
public final class BoundaryPlayTest extends Boundary {
    private BoundaryPlayTest() {
    }

    public static void main(String[] args) {
        persons();
        puts();
        room();
        entries();
        undos();
        redos();
        marks();
        wrongs();
        anew();
        items();
        submits();
        table();
        finish();
    }

    private static void persons() {
        sentence(3, "person P: \"no person\" above 2; else that one is present: \"ok\".");
        PuzzleHouse house = loaded("new 1 1 2");
        run(house, "person 2", "ok");
        for (int p = 3; p <= 9; p++) {
            run(house, "person " + p, "no person");
            due("state(8)", house.state(8), 2);
        }
        for (int p = 0; p <= 2; p++) {
            run(house, "person " + p, "ok", "person " + p, "ok", "state", ".");
            due("state(8)", house.state(8), p);
        }
        sentence(3, "Each has ENTRIES, a symbol in some cells that are not given, MARKS, any symbols at such cells, and STEPS BACK");
        house = loaded("new 2 1 3");
        for (int p = 0; p <= 2; p++) {
            run(house, "person " + p, "ok", "state", "..", "undo", "no step", "redo 0", "no step", "marks 1", ".", "put 0 " + p, "ok", "mark 1 " + p, "on");
        }
        for (int p = 0; p <= 2; p++) {
            run(house, "person " + p, "ok", "state", p + ".", "marks 1", p + ".", "undo", "ok", "state", "..", "undo", "no step");
        }
        for (int p = 0; p <= 2; p++) {
            run(house, "person " + p, "ok", "redo 0", "ok", "state", p + ".", "redo 0", "no step");
        }
    }

    private static void puts() {
        sentence(3, "put C S: \"no cell\", \"given\" when the cell is given, \"no symbol\", \"same\" when its entry is that already (or, of \"-\", it has none)");
        PuzzleHouse house = loaded("new 3 3 4;give 0 3");
        run(house, "put 9 0", "no cell", "put 9 9", "no cell", "put 9 -", "no cell", "put 999 0", "no cell", "put 0 0", "given", "put 0 3", "given", "put 0 9", "given", "put 0 -", "given",
            "put 8 4", "no symbol", "put 8 9", "no symbol", "put 8 -", "same", "put 8 3", "ok", "put 8 3", "same", "put 8 4", "no symbol", "state", "3.......3", "put 8 0", "ok",
            "put 8 -", "ok", "put 8 -", "same", "state", "3........");
        due("state(4)", house.state(4), 3);
        run(house, "undo", "ok", "put 8 0", "same", "undo", "ok", "put 8 3", "same", "undo", "ok", "put 8 -", "same");
        due("state(4)", house.state(4), 3);
        on("new 1 1 1", "put 0 1", "no symbol", "put 0 0", "ok", "state", "0");
        on("new 2 1 2;give 0 0", "put 0 0", "given", "put 0 1", "given", "put 0 -", "given", "mark 0 0", "given", "mark 0 1", "given", "state", "0.");
    }

    private static void room() {
        sentence(3, "\"no room\" with 100 steps back (done or undone)");
        PuzzleHouse house = loaded("new 2 1 2");
        for (int i = 0; i < 99; i++) {
            run(house, "put 0 " + i % 2, "ok");
        }
        due("state(4)", house.state(4), 99);
        run(house, "undo", "ok", "undo", "ok", "put 1 1", "ok", "put 1 0", "no room", "put 1 -", "no room", "put 1 1", "same", "put 2 0", "no cell", "put 1 2", "no symbol");
        due("state(4)", house.state(4), 100);
        run(house, "undo", "ok", "put 0 1", "no room", "state", "0.", "redo 0", "ok", "state", "1.", "redo 0", "ok", "state", "0.", "redo 0", "no step", "put 0 1", "no room",
            "undo", "ok", "undo", "ok", "redo 1", "ok", "state", "01", "redo 0", "no step");
        for (int i = 0; i < 98; i++) {
            run(house, "undo", "ok");
        }
        run(house, "undo", "no step", "state", "..", "put 0 0", "no room", "put 0 1", "no room", "put 0 -", "same", "mark 0 1", "on", "redo 1", "no step", "redo 0", "ok");
        due("state(4)", house.state(4), 100);
        // The others have room of their own, and so has who was full once play begins anew.
        run(house, "person 1", "ok", "put 0 0", "ok", "person 0", "ok", "put 0 1", "no room", "give 1 -", "ok", "put 0 1", "ok");
        due("state(4)", house.state(4), 1);
    }

    private static void entries() {
        sentence(3, "state: each cell's given, or entry, or \".\" without.");
        on("new 3 3 4", "state", ".........", "give 8 0", "ok", "state", "........0", "put 0 0", "ok", "put 7 3", "ok", "state", "0......30", "put 0 -", "ok", "state", ".......30");
        on("new 1 1 1", "state", ".", "give 0 0", "ok", "state", "0");
        on("new 1 3 2", "state", "...", "put 2 1", "ok", "state", "..1");
    }

    private static void undos() {
        sentence(3, "undo: the present step back is undone (its cell has what it had ahead of it), the one ahead of it is the present one: \"ok\"; \"no step\" at the beginning.");
        on("new 2 1 3", "undo", "no step", "put 0 2", "ok", "put 0 1", "ok", "put 0 -", "ok", "put 1 0", "ok", "undo", "ok", "state", "..", "undo", "ok", "state", "1.", "undo", "ok", "state", "2.",
            "undo", "ok", "state", "..", "undo", "no step", "state", "..");
        // What comes behind an undone step is behind the one ahead of it.
        on("new 2 1 3", "put 0 0", "ok", "put 0 1", "ok", "undo", "ok", "put 1 2", "ok", "undo", "ok", "state", "0.", "undo", "ok", "state", "..", "undo", "no step");
    }

    private static void redos() {
        sentence(3, "redo K: step back K (from 0 on, as they came) of those that came right behind the present one is done again, and is it: \"ok\"; \"no step\".");
        PuzzleHouse house = loaded("new 2 1 4");
        run(house, "redo 0", "no step", "redo 999", "no step");
        for (int s = 0; s < 4; s++) {
            run(house, "put 0 " + s, "ok", "redo 0", "no step", "undo", "ok");
        }
        run(house, "redo 4", "no step", "redo 999", "no step", "redo 3", "ok", "state", "3.", "redo 0", "no step", "undo", "ok", "redo 0", "ok", "state", "0.", "put 1 1", "ok", "undo", "ok", "undo", "ok",
            "redo 4", "no step", "redo 1", "ok", "redo 0", "no step", "undo", "ok", "redo 0", "ok", "redo 1", "no step", "redo 0", "ok", "state", "01");
        due("state(4)", house.state(4), 5);
        // A step done again takes away what it took away.
        on("new 1 1 2", "put 0 1", "ok", "put 0 -", "ok", "undo", "ok", "state", "1", "redo 0", "ok", "state", ".", "undo", "ok", "undo", "ok", "state", ".");
        sentence(3, "each behind another one or the beginning");
        on("new 1 1 3", "put 0 0", "ok", "put 0 1", "ok", "undo", "ok", "undo", "ok", "put 0 2", "ok", "undo", "ok", "redo 1", "ok", "state", "2", "undo", "ok", "redo 2", "no step", "redo 0", "ok", "redo 0", "ok",
            "state", "1");
    }

    private static void marks() {
        sentence(3, "mark C S: \"no cell\", \"given\", \"no symbol\"; else the mark is there, when it was not, or goes: \"on\", \"off\".");
        PuzzleHouse house = loaded("new 3 3 4;give 0 1");
        run(house, "mark 9 0", "no cell", "mark 9 9", "no cell", "mark 999 9", "no cell", "mark 0 0", "given", "mark 0 9", "given", "mark 8 4", "no symbol", "mark 8 9", "no symbol",
            "mark 8 3", "on", "mark 8 3", "off", "mark 8 3", "on", "mark 8 0", "on");
        sentence(3, "marks C: \"no cell\"; else the symbols marked there, rising, then \".\".");
        run(house, "marks 9", "no cell", "marks 999", "no cell", "marks 0", ".", "marks 1", ".", "marks 8", "03.", "mark 8 2", "on", "mark 8 1", "on", "marks 8", "0123.", "mark 8 0", "off",
            "mark 8 3", "off", "marks 8", "12.", "put 8 1", "ok", "marks 8", "12.", "undo", "ok", "marks 8", "12.");
        due("state(4)", house.state(4), 1);
    }

    private static void wrongs() {
        sentence(3, "wrong: \"not one\" unless there is just one answer; else how many entries are others than it has.");
        on("new 1 1 2", "wrong", "not one", "put 0 1", "ok", "wrong", "not one");
        on("new 1 1 2;rule seen 0 0", "wrong", "not one");
        on("new 1 1 1", "wrong", "0", "put 0 0", "ok", "wrong", "0");
        on("new 1 1 4;rule sum 3 0", "wrong", "0", "put 0 2", "ok", "wrong", "1", "put 0 3", "ok", "wrong", "0", "put 0 -", "ok", "wrong", "0");
        on("new 2 1 2;rule alike 0 1;give 0 1", "put 1 0", "ok", "wrong", "1", "put 1 1", "ok", "wrong", "0");
        on("new 2 1 2;rule unlike 0 1;give 1 1", "put 0 0", "ok", "wrong", "0", "put 0 1", "ok", "wrong", "1");
        PuzzleHouse house = loaded("new 3 3 2;rule sum 0 0 1 2 3;rule sum 0 4 5 6 7;rule sum 1 8");
        for (int c = 0; c < 9; c++) {
            run(house, "put " + c + " " + (c == 8 ? 0 : 1), "ok", "wrong", "" + (c + 1));
        }
        run(house, "person 1", "ok", "wrong", "0");
    }

    private static void anew() {
        sentence(3, "When play begins anew all of these are gone; who is present stays.");
        String[] begins = {"new 2 1 2", "rule unlike 0", "each row unlike", "each pair seen 1", "give 0 0", "give 1 -", "drop", "load new 2 1 2", "open a", "least", "make 0 0", "vary 0"};
        for (String request : begins) {
            PuzzleHouse house = played();
            due(request + " is refused", Talk.say(house, request).startsWith("no"), false);
            due("state(8) behind " + request, house.state(8), 2);
            String text = Talk.say(house, "text");
            String givens = (text.contains("give 0 1") ? "1" : text.contains("give 0 0") ? "0" : ".") + (text.contains("give 1 1") ? "1" : text.contains("give 1 0") ? "0" : ".");
            for (int p = 0; p < 3; p++) {
                run(house, "person " + p, "ok", "state", givens, "undo", "no step", "redo 0", "no step", "marks 1", ".");
                due("state(4)", house.state(4), 0);
            }
        }
        sentence(3, "Play begins anew, for all persons, when the puzzle was changed by new, rule, each, give, drop, load, open, least, make or vary with one of the answers that are told behind \"else\" there.");
        String[] refused = {"new 0 1 1", "rule unlike 2", "rule sum 100 0", "each row sum 100", "give 2 0", "give 0 2", "load new 1 1 0", "load new 2 1 2;give 2 2", "open b", "make 0 2", "text",
            "form", "find", "keep b", "remove a", "contest", "set a 1", "mend", "export", "import book 0/14257", "import book 1/a new 1 1 1/0", "person 2", "mark 1 1", "hint", "solve", "check u;",
            "many", "clash", "wrong", "cover 1", "barred", "vary", "list", "cut 999"};
        for (String request : refused) {
            PuzzleHouse house = played();
            Talk.say(house, request);
            for (int p = 0; p < 3; p++) {
                run(house, "person " + p, "ok", "state", "11");
                due("state(4) behind " + request, house.state(4), 1);
            }
        }
        PuzzleHouse full = loaded("new 2 1 2" + ";rule unlike 0".repeat(12));
        run(full, "put 0 1", "ok", "rule unlike 0", "no room", "each row unlike", "no room", "least", "not one", "state", "1.");
        run(full, "new 1 1 2", "ok", "put 0 1", "ok", "drop", "no rule", "rule seen 0 0", "rule 0", "put 0 1", "ok", "make 0 0", "none", "state", "1");
    }

    /** All three persons have an entry and a mark, 2 is present, and there is one answer. */
    private static PuzzleHouse played() {
        PuzzleHouse house = loaded("new 2 1 2;rule alike 0 1;give 0 1");
        run(house, "keep a", "ok");
        for (int p = 0; p < 3; p++) {
            run(house, "person " + p, "ok", "put 1 1", "ok", "mark 1 0", "on");
        }
        return house;
    }

    private static void items() {
        sentence(3, "set N K: \"shut\", \"no name\" when the book has none such, \"there\" when an item has that name, \"no room\" with 6 items");
        PuzzleHouse house = loaded("new 1 1 2;give 0 1");
        run(house, "set a 0", "no name");
        for (char c = 'a'; c < 'g'; c++) {
            run(house, "keep abcdefg" + c, "ok", "set abcdefg" + c + " " + (c - 'a'), "ok");
        }
        for (char c = 'a'; c < 'g'; c++) {
            run(house, "set abcdefg" + c + " 1", "there", "submit 0 abcdefg" + c + " 0 1", "right", "submit 0 abcdefg" + c + " 0 1", "over", "remove abcdefg" + c, "ok");
        }
        run(house, "table", "0 15 0;1 0 0;2 0 0;", "contest", "ok");
        for (char c = 'a'; c < 'h'; c++) {
            run(house, "keep " + c, "ok");
        }
        for (char c = 'a'; c < 'g'; c++) {
            due("state(9)", house.state(9), c - 'a');
            run(house, "set " + c + " 999", "ok", "set " + c + " 0", "there");
        }
        due("state(9)", house.state(9), 6);
        sentence(3, "THE CONTEST has at most 6 ITEMS, each with a name, a puzzle and points");
        run(house, "set g 1", "no room", "set a 1", "there", "set h 1", "no name", "remove a", "ok", "set a 1", "no name", "set ab 1", "no name", "submit 0 a 0 1", "right");
        due("poke", house.poke(31, 0, 1), true);
        run(house, "set b 1", "shut", "set zz 1", "shut", "submit 0 b 0 1", "right", "table", "0 1998 0;1 0 0;2 0 0;", "mend", "ok", "set g 1", "no room");
        due("state(9)", house.state(9), 6);
        sentence(3, "contest: items and what belongs to them go: \"ok\".");
        run(house, "contest", "ok", "table", "0 0 0;1 0 0;2 0 0;", "submit 0 b 0 1", "no item", "contest", "ok", "set b 3", "ok", "table", "0 0 0;1 0 0;2 0 0;", "submit 0 b 7 1", "right",
            "table", "0 3 7;1 0 0;2 0 0;");
        due("state(9)", house.state(9), 1);
        // Another name that begins likewise, and one of eight letters.
        run(house, "keep bb", "ok", "keep abcdefgh", "ok", "keep abcdefgi", "ok", "set bb 1", "ok", "set abcdefgh 1", "ok", "set abcdefgi 1", "ok", "set abcdefg 1", "no name",
            "submit 1 abcdefg 0 1", "no item", "submit 1 abcdefgh 0 1", "right", "submit 1 abcdefgi 0 0", "wrong");
    }

    private static void submits() {
        sentence(3, "submit P N T D: \"no person\", \"no item\", \"over\" when that person was right there; \"no filling\" when D has not as many digits as the item's puzzle has cells, or one that is none of its symbols");
        PuzzleHouse house = loaded("new 3 3 4;rule alike 0 8;give 4 3");
        run(house, "keep a", "ok", "set a 5", "ok", "new 1 1 1", "ok", "keep a", "ok");
        run(house, "submit 3 b 0 0", "no person", "submit 9 a 0 000030000", "no person", "submit 2 b 0 000030000", "no item", "submit 2 a 0 00003000", "no filling", "submit 2 a 0 0000300000", "no filling",
            "submit 2 a 0 0", "no filling", "submit 2 a 0 000040000", "no filling", "submit 2 a 0 000030004", "no filling", "submit 2 a 0 900030000", "no filling",
            "submit 2 a 0 " + "0".repeat(400), "no filling", "submit 2 a 999 300030003", "right", "submit 2 a 0 0", "over", "submit 2 a 0 300030003", "over", "submit 2 b 0 0", "no item",
            "submit 3 a 0 0", "no person", "table", "2 5 999;0 0 0;1 0 0;");
        sentence(3, "else an item more with that name, the puzzle that the book's entry has now, and K points: \"ok\".");
        // The book's entry was written over, removed and torn since then.
        run(house, "submit 0 a 0 0", "no filling", "remove a", "ok", "submit 0 a 0 00003000", "no filling");
        due("poke", house.poke(1, 0, 255), true);
        due("poke", house.poke(2, 0, 255), true);
        run(house, "mend", "torn", "submit 0 a 0 00003000", "no filling", "submit 0 a 0 000030001", "wrong", "contest", "ok", "submit 0 a 0 0", "no item");
        house = loaded("new 3 3 4;rule alike 0 8;give 4 3");
        run(house, "keep a", "ok", "set a 5", "ok", "submit 2 a 999 300030003", "right");
        sentence(3, "\"right\", at T, when it is an answer of the item's puzzle, else \"wrong\".");
        run(house, "submit 1 a 0 300030002", "wrong", "submit 1 a 0 300020003", "wrong", "submit 1 a 0 000030000", "right", "table", "2 5 999;1 3 40;0 0 0;");
        on("new 1 1 2;give 0 0", "keep a", "ok", "set a 1", "ok", "submit 0 a 0 1", "wrong", "submit 0 a 0 0", "right", "submit 0 a 0 0", "over", "submit 0 a 0 1", "over", "table", "1 0 0;2 0 0;0 0 20;");
        on("new 1 1 1;rule seen 0 0", "keep a", "ok", "set a 1", "ok", "submit 0 a 1 0", "wrong", "submit 0 a 1 0", "wrong", "table", "0 0 0;1 0 0;2 0 0;");
        on("new 1 1 1", "keep a", "ok", "set a 1", "ok", "submit 0 a 1 1", "no filling", "submit 0 a 1 00", "no filling", "submit 0 a 1 0", "right", "table", "0 1 1;1 0 0;2 0 0;");
    }

    private static void table() {
        sentence(3, "POINTS the sum of what is left of the points less how many times it was wrong there (0 at least), TIME the sum of T and 20 times how many times it was wrong.");
        PuzzleHouse house = loaded("new 1 1 2;give 0 1");
        run(house, "keep a", "ok", "keep b", "ok", "set a 2", "ok", "set b 3", "ok", "submit 0 a 0 0", "wrong", "submit 0 a 0 0", "wrong", "table", "0 0 0;1 0 0;2 0 0;", "submit 0 a 5 1", "right",
            "table", "1 0 0;2 0 0;0 0 45;", "submit 1 a 0 0", "wrong", "submit 1 a 0 0", "wrong", "submit 1 a 0 0", "wrong", "submit 1 a 0 1", "right", "table", "2 0 0;0 0 45;1 0 60;",
            "submit 1 b 9 0", "wrong", "submit 1 b 9 1", "right", "table", "1 2 89;2 0 0;0 0 45;");
        // A wrong one without a right one counts nothing.
        run(house, "submit 2 b 9 0", "wrong", "table", "1 2 89;2 0 0;0 0 45;");
        sentence(3, "table: for each person, by POINTS falling, then TIME rising, then numbers");
        run(house, "contest", "ok", "set a 1", "ok", "set b 0", "ok", "table", "0 0 0;1 0 0;2 0 0;", "submit 2 a 8 1", "right", "table", "2 1 8;0 0 0;1 0 0;", "submit 1 a 8 1", "right",
            "table", "1 1 8;2 1 8;0 0 0;", "submit 0 a 8 1", "right", "table", "0 1 8;1 1 8;2 1 8;", "submit 0 b 1 1", "right", "table", "1 1 8;2 1 8;0 1 9;", "submit 1 b 0 1", "right",
            "table", "1 1 8;2 1 8;0 1 9;", "submit 2 b 0 0", "wrong", "submit 2 b 0 1", "right", "table", "1 1 8;0 1 9;2 1 28;");
    }
}
