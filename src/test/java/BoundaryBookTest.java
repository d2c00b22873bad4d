/** Boundary cases of promise 3: what is kept in the book, cut off, and told as a text. */
public final class BoundaryBookTest extends Boundary {
    private BoundaryBookTest() {
    }

    public static void main(String[] args) {
        rootPages();
        chains();
        shut();
        keepRooms();
        pageRooms();
        names();
        writing();
        cuts();
        noCuts();
        exports();
        imports();
        importRooms();
        finish();
    }

    /** The page that is the root now. */
    private static int root(PuzzleHouse house) {
        return house.byteAt(0, 0);
    }

    private static void rootPages() {
        sentence(3, "its first byte, THE TURN, is 1 or 2: which of the pages 1 and 2 is THE ROOT.");
        PuzzleHouse house = new PuzzleHouse();
        run(house, "keep a", "ok");
        bytes(house, 0, 2);
        run(house, "keep a", "ok");
        bytes(house, 0, 1);
        run(house, "remove a", "ok");
        bytes(house, 0, 2);
        run(house, "remove a", "no name", "open a", "no name", "list", ".");
        bytes(house, 0, 2);
        sentence(3, "its first byte tells how many ENTRIES OF THE BOOK (0 to 15), then two bytes each");
        bytes(house, 2);
        house = new PuzzleHouse();
        int[] full = new int[32];
        full[0] = 15;
        for (int i = 0; i < 15; i++) {
            due("state(5)", house.state(5), i);
            run(house, "keep " + (char) ('a' + i), "ok");
            full[1 + 2 * i] = 3 + i;
            full[2 + 2 * i] = 1;
        }
        // 15, 3 to 17, and 15 times 1.
        full[31] = 180;
        bytes(house, 2, full);
        due("state(5)", house.state(5), 15);
        sentence(3, "its last byte is THE SUM of its other 31 bytes modulo 251.");
        house = loaded(longestText());
        run(house, "keep a", "ok", "new 1 1 1", "ok");
        int sum = 1 + 3 + 12;
        for (int i = 1; i < 15; i++) {
            due("the sum of " + i + " entries", house.byteAt(root(house), 31), sum % 251);
            run(house, "keep " + (char) ('a' + i), "ok");
            sum += 1 + 14 + i + 1;
        }
        due("the sum that goes beyond 251", sum, 345);
        due("the sum of 15 entries", house.byteAt(root(house), 31), 94);
        run(house, "mend", "ok");
        due("state(5)", house.state(5), 15);
    }

    private static void chains() {
        sentence(3, "the name's length, the name, THE TEXT's length (two bytes, the lower one first), THE TEXT of a puzzle; then 0.");
        PuzzleHouse house = new PuzzleHouse();
        run(house, "keep z", "ok");
        bytes(house, 3, 1, 'z', 9, 0, 'n', 'e', 'w', ' ', '1', ' ', '1', ' ', '1');
        run(house, "keep abcdefgh", "ok");
        bytes(house, 4, 8, 'a', 'b', 'c', 'd', 'e', 'f', 'g', 'h', 9, 0, 'n', 'e', 'w', ' ', '1', ' ', '1', ' ', '1');
        // 255 and 256 bytes of text: nine givens, and twelve rules of 13 and 14 bytes.
        String givens = ";give 0 0;give 1 0;give 2 0;give 3 0;give 4 0;give 5 0;give 6 0;give 7 0;give 8 0";
        String[] texts = {"new 3 3 1" + ";rule unlike 0".repeat(9) + ";rule sum 0 0".repeat(3) + givens, "new 3 3 1" + ";rule unlike 0".repeat(10) + ";rule sum 0 0".repeat(2) + givens};
        for (int i = 0; i < 2; i++) {
            house = loaded(texts[i]);
            run(house, "keep q", "ok", "new 1 1 1", "ok", "open q", "ok", "text", texts[i], "mend", "ok", "open q", "ok", "text", texts[i]);
            due("the lower byte of the length", house.byteAt(3, 2), i == 0 ? 255 : 0);
            due("the higher one", house.byteAt(3, 3), i);
            due("pages", house.byteAt(2, 2), 9);
        }
        house = loaded(longestText());
        run(house, "keep abcdefgh", "ok");
        due("the lower byte of 354", house.byteAt(3, 9), 98);
        due("the higher one", house.byteAt(3, 10), 1);
        due("pages", house.byteAt(2, 2), 12);
        // 365 bytes are eleven pages and 13 bytes.
        due("the last byte of the text", house.byteAt(14, 12), (int) '3');
        due("the byte behind it", house.byteAt(14, 13), 0);
        due("the page behind it", house.byteAt(15, 0), 0);
        sentence(3, "else into the first ones that are the chain is written (all its pages)");
        // 8 + 3 + 21 bytes are just one page, one byte more two; what had stood there is 0 then.
        run(house, "remove abcdefgh", "ok", "load new 2 1 2;rule rise 0", "ok", "keep abcdefgh", "ok");
        due("pages of 32 bytes", house.byteAt(root(house), 2), 1);
        due("the last byte of the page", house.byteAt(3, 31), (int) '0');
        due("the next page stays", house.byteAt(4, 0), (int) longestText().charAt(21));
        run(house, "open abcdefgh", "ok", "text", "new 2 1 2;rule rise 0", "mend", "ok", "remove abcdefgh", "ok", "load new 2 1 2;rule alike 0", "ok", "keep abcdefgh", "ok");
        due("pages of 33 bytes", house.byteAt(root(house), 2), 2);
        bytes(house, 4, '0');
        due("the page behind them stays", house.byteAt(5, 0), (int) longestText().charAt(53));
        run(house, "mend", "ok", "open abcdefgh", "ok", "text", "new 2 1 2;rule alike 0", "remove abcdefgh", "ok", "new 1 1 1", "ok", "keep a", "ok");
        bytes(house, 3, 1, 'a', 9, 0, 'n', 'e', 'w', ' ', '1', ' ', '1', ' ', '1');
    }

    private static void shut() {
        sentence(3, "keep, open, remove, list, export, import: \"shut\" when the book is not open.");
        PuzzleHouse house = new PuzzleHouse();
        run(house, "keep a", "ok", "cut 65", "ok");
        String[] requests = {"keep a", "keep b", "open a", "open b", "remove a", "remove b", "list", "export", "import book 0/14257", "import book 1/14257", "import book 0/0",
            "import book 1/a new 0 1 1/0", "find", "set a 1"};
        int[][] before = pages(house);
        for (String request : requests) {
            run(house, request, "shut");
            due("state(5)", house.state(5), -1);
        }
        samePages(house, before, "being shut");
        // "bad" is told even then; other requests go on.
        run(house, "keep A", "bad 5", "text", "new 1 1 1", "many", "1", "cut 0", "no cut", "table", "0 0 0;1 0 0;2 0 0;", "mend", "ok", "list", "a .");
        due("poke", house.poke(9, 9, 9), true);
        run(house, "list", "shut", "open a", "shut", "mend", "ok", "open a", "ok");
    }

    private static int[][] pages(PuzzleHouse house) {
        int[][] pages = new int[32][32];
        for (int page = 0; page < 32; page++) {
            for (int i = 0; i < 32; i++) {
                pages[page][i] = house.byteAt(page, i);
            }
        }
        return pages;
    }

    private static void samePages(PuzzleHouse house, int[][] want, String behind) {
        for (int page = 0; page < 32; page++) {
            for (int i = 0; i < 32; i++) {
                due("byteAt(" + page + ", " + i + ") behind " + behind, house.byteAt(page, i), want[page][i]);
            }
        }
    }

    private static void keepRooms() {
        sentence(3, "keep N: \"no room\" when there are 15 entries without the first of this name");
        PuzzleHouse house = new PuzzleHouse();
        for (char c = 'a'; c < 'o'; c++) {
            run(house, "keep " + c, "ok");
        }
        run(house, "keep a", "ok", "list", "b c d e f g h i j k l m n a .", "keep o", "ok");
        int[][] before = pages(house);
        run(house, "keep p", "no room", "keep aa", "no room");
        samePages(house, before, "no room");
        due("state(5)", house.state(5), 15);
        run(house, "keep b", "ok", "list", "c d e f g h i j k l m n a o b .", "keep b", "ok", "remove c", "ok", "keep p", "ok", "keep q", "no room", "remove p", "ok", "keep q", "ok");
        due("state(5)", house.state(5), 15);
        // Fifteen of one name: without the first of them there are fourteen.
        house = new PuzzleHouse();
        run(house, "keep a", "ok");
        int[] fifteen = new int[30];
        for (int i = 0; i < 15; i++) {
            fifteen[2 * i] = 3;
            fifteen[2 * i + 1] = 1;
        }
        root(house, 1, 15, fifteen);
        run(house, "mend", "ok", "keep b", "no room", "keep a", "ok", "list", "a a a a a a a a a a a a a a a .", "remove a", "ok", "list", "a a a a a a a a a a a a a a .", "keep b", "ok", "keep c", "no room");
    }

    private static void pageRooms() {
        sentence(3, "or no pages, that many as are needed, free one behind the other (those of this name's entry are not free yet)");
        PuzzleHouse house = loaded(longestText());
        run(house, "keep a", "ok", "keep b", "ok", "keep c", "no room", "keep a", "no room", "keep b", "no room", "new 1 1 1", "ok");
        for (char c = 'c'; c < 'h'; c++) {
            run(house, "keep " + c, "ok");
        }
        // Pages 3 to 14, 15 to 26, then 27 to 31 one by one: none is free any more.
        int[][] before = pages(house);
        run(house, "keep h", "no room", "keep c", "no room", "keep a", "no room");
        samePages(house, before, "no room");
        // 28 and 30 are free then, not one behind the other.
        run(house, "remove d", "ok", "remove f", "ok", "load new 2 1 2;rule alike 0;give 0 0;give 1 1", "ok", "keep h", "no room", "keep d", "no room", "remove e", "ok", "keep d", "ok");
        due("pages of the latest entry", house.byteAt(root(house), 2 * house.state(5)), 2);
        due("its chain", house.byteAt(root(house), 2 * house.state(5) - 1), 28);
        run(house, "keep h", "no room", "new 1 1 1", "ok", "keep h", "ok", "keep i", "no room", "open d", "ok", "text", "new 2 1 2;rule alike 0;give 0 0;give 1 1");
        due("the last free page's chain", house.byteAt(root(house), 2 * house.byteAt(root(house), 0) - 1), 30);
        run(house, "list", "a b c g d h .", "remove a", "ok", "keep a", "ok");
        due("the first ones that are free", house.byteAt(root(house), 2 * house.byteAt(root(house), 0) - 1), 3);
        // A chain up to the last page, and one that is longer than it needs.
        house = loaded(longestText());
        run(house, "keep a", "ok");
        root(house, 1, 1, 3, 17);
        run(house, "mend", "ok", "keep b", "ok");
        due("the chain from 20 on", house.byteAt(2, 3), 20);
        run(house, "new 1 1 1", "ok", "keep c", "no room", "remove a", "ok", "keep c", "ok");
        root(house, 1, 1, 3, 18);
        run(house, "mend", "ok", "load " + longestText(), "ok", "keep b", "no room", "new 1 1 1", "ok", "keep b", "ok");
    }

    private static void names() {
        sentence(3, "open N: \"no name\"; else as load of its text. remove N: \"no name\"; the other root page without the first of this name, then THE TURN: \"ok\".");
        PuzzleHouse house = loaded("new 1 1 2");
        run(house, "open a", "no name", "remove a", "no name", "keep ab", "ok", "open a", "no name", "open abc", "no name", "open b", "no name", "remove a", "no name", "remove abc", "no name",
            "new 1 1 3", "ok", "keep abcdefgh", "ok", "open abcdefg", "no name", "text", "new 1 1 3", "open ab", "ok", "text", "new 1 1 2", "open abcdefgh", "ok", "text", "new 1 1 3",
            "remove abcdefgh", "ok", "open abcdefgh", "no name", "remove abcdefgh", "no name", "list", "ab .");
        sentence(3, "list: the names, each followed by a blank, then \".\" .");
        run(house, "remove ab", "ok", "list", ".", "keep b", "ok", "keep a", "ok", "list", "b a .", "keep b", "ok", "list", "a b .");
        sentence(3, "chains may share pages, and be longer than they need; of two entries with one name the first counts");
        house = loaded("new 1 1 2");
        run(house, "keep a", "ok", "new 1 1 3", "ok", "keep b", "ok");
        set(house, 4, 1, 'a');
        run(house, "mend", "ok", "list", "a a .", "open a", "ok", "text", "new 1 1 2", "set a 9", "ok", "submit 0 a 0 2", "no filling", "set a 9", "there", "find", "a .", "remove a", "ok",
            "list", "a .", "open a", "ok", "text", "new 1 1 3", "remove a", "ok", "list", ".");
        root(house, 1, 3, 3, 1, 4, 28, 3, 29);
        run(house, "mend", "ok", "list", "a a a .", "export", "book 3/a new 1 1 2/a new 1 1 3/a new 1 1 2/" + check("book 3/a new 1 1 2/a new 1 1 3/a new 1 1 2/"), "keep a", "no room");
        root(house, 1, 3, 3, 1, 4, 1, 3, 2);
        run(house, "mend", "ok", "new 1 1 4", "ok", "keep a", "ok", "list", "a a a .", "open a", "ok", "text", "new 1 1 3", "remove a", "ok", "open a", "ok", "text", "new 1 1 2",
            "remove a", "ok", "open a", "ok", "text", "new 1 1 4");
    }

    /** A book of two entries, ahead of keeping or removing one of them. */
    private static PuzzleHouse kept() {
        PuzzleHouse house = loaded("new 1 1 2");
        run(house, "keep a", "ok", "keep b", "ok", "load new 2 1 2;rule alike 0;give 0 0;give 1 1", "ok");
        return house;
    }

    private static void writing() {
        sentence(3, "else of these the first N stay, all others are as before it; the book is not open then: \"ok\".");
        int[][] before = pages(kept());
        for (String request : new String[] {"keep c", "keep a", "remove a"}) {
            PuzzleHouse done = kept();
            run(done, request, "ok");
            int[][] after = pages(done);
            // Two pages of a chain, from page 5 on; root page 2; THE TURN.
            int chain = request.startsWith("keep") ? 64 : 0;
            for (int n = 0; n <= chain + 34; n++) {
                PuzzleHouse house = kept();
                run(house, request, "ok", "cut " + n, n <= chain + 33 ? "ok" : "no cut");
                if (n <= chain + 33) {
                    samePages(house, mixed(before, after, chain, n), request + " and cut " + n);
                    due("state(5)", house.state(5), -1);
                    run(house, "list", "shut", "cut 0", "no cut", "mend", "ok", "list", Talk.say(n == chain + 33 ? done : kept(), "list"));
                }
            }
        }
    }

    /** Of the bytes in the order in which they are written the first n as they are afterwards. */
    private static int[][] mixed(int[][] before, int[][] after, int chain, int n) {
        int[][] pages = new int[32][];
        for (int page = 0; page < 32; page++) {
            pages[page] = before[page].clone();
        }
        for (int i = 0; i < n; i++) {
            int page = i < chain ? 5 + i / 32 : i < chain + 32 ? 2 : 0;
            int at = i < chain ? i % 32 : i < chain + 32 ? i - chain : 0;
            pages[page][at] = after[page][at];
        }
        return pages;
    }

    private static void cuts() {
        sentence(3, "or what was written for the latest entry kept or removed has fewer than N bytes (32 for each page, one for THE TURN)");
        on("new 1 1 1", "keep a", "ok", "cut 66", "no cut", "cut 999", "no cut", "cut 65", "ok", "mend", "ok", "list", "a .");
        on("new 1 1 1", "keep a", "ok", "cut 64", "ok", "mend", "ok", "list", ".");
        on(longestText(), "keep abcdefgh", "ok", "cut 418", "no cut", "cut 417", "ok", "mend", "ok", "list", "abcdefgh .", "remove abcdefgh", "ok", "cut 34", "no cut", "cut 33", "ok", "mend", "ok", "list", ".");
        on(longestText(), "keep abcdefgh", "ok", "remove abcdefgh", "ok", "cut 32", "ok", "mend", "ok", "list", "abcdefgh .");
        // Refused ones write nothing: the latest entry is the one ahead of them.
        on("new 1 1 1", "keep a", "ok", "remove b", "no name", "open b", "no name", "cut 66", "no cut", "cut 0", "ok", "mend", "ok", "list", ".");
        on(longestText(), "keep a", "ok", "keep b", "ok", "keep c", "no room", "cut 0", "ok", "mend", "ok", "list", "a .");
        // Of an import the latest entry alone.
        on("new 1 1 1", "import book 2/a new 1 1 1/b new 2 1 2;rule unlike 0 1;give 0 1/55487", "ok", "cut 98", "no cut", "cut 97", "ok", "mend", "ok", "list", "a b .");
        on("new 1 1 1", "import book 2/a new 1 1 1/b new 2 1 2;rule unlike 0 1;give 0 1/55487", "ok", "cut 96", "ok", "mend", "ok", "list", "a .");
    }

    private static void noCuts() {
        sentence(3, "cut N: \"no cut\" when the book is not open, no page was written since it was opened");
        on("new 1 1 1", "cut 0", "no cut", "cut 1", "no cut", "list", ".", "open a", "no name", "remove a", "no name", "cut 0", "no cut", "import book 0/14257", "ok", "cut 0", "no cut", "import book 0/0", "no check",
            "cut 0", "no cut", "keep a", "ok", "cut 0", "ok", "cut 0", "no cut", "keep a", "shut", "cut 0", "no cut", "mend", "ok", "cut 0", "no cut");
        PuzzleHouse house = new PuzzleHouse();
        run(house, "keep a", "ok");
        due("poke", house.poke(31, 31, 1), true);
        run(house, "cut 0", "no cut", "cut 65", "no cut", "mend", "ok", "cut 0", "no cut", "list", "a .");
        sentence(3, "Behind mend no page was written since it was opened, though it had been open.");
        on("new 1 1 1", "keep a", "ok", "mend", "ok", "cut 0", "no cut", "list", "a .", "remove a", "ok", "mend", "ok", "cut 33", "no cut", "keep b", "ok", "cut 0", "ok", "mend", "ok", "list", ".");
        run(house, "keep b", "ok");
        set(house, 0, 0, 3);
        run(house, "mend", "torn", "cut 0", "no cut");
        set(house, 0, 0, 1);
        run(house, "mend", "ok", "cut 0", "no cut", "list", "a b .");
    }

    private static void exports() {
        sentence(3, "m THE CHECK of all bytes ahead of it (the \"/\" there, too): from 7 on, for each byte times 31 and that byte, modulo 65521.");
        on("new 1 1 1", "export", "book 0/14257", "keep a", "ok", "export", "book 1/a new 1 1 1/1871");
        // Without a modulo the check of "book 0/" is far above 65521.
        long check = 7;
        for (char c : "book 0/".toCharArray()) {
            check = check * 31 + c;
        }
        due("the check that goes beyond 65521", check % 65521, 14257L);
        on("new 1 1 1", "import book 0/14257", "ok", "import book 0/14256", "no check", "import book 0/14258", "no check", "import book 0/79778", "no check", "import book 0/0", "no check");
        sentence(3, "of each in their order its name and THE TEXT of its puzzle");
        PuzzleHouse house = loaded("new 1 1 1");
        run(house, "import book 1/a new 2 1 2;give 1 0;each row unlike;give 1 1;give 0 0/" + check("book 1/a new 2 1 2;give 1 0;each row unlike;give 1 1;give 0 0/"), "ok", "export",
            "book 1/a new 2 1 2;rule unlike 0 1;give 0 0;give 1 1/" + check("book 1/a new 2 1 2;rule unlike 0 1;give 0 0;give 1 1/"));
        // A chain may hold a right text that is not THE TEXT of its puzzle.
        String text = "new 1 1 1;give 0 0;each row rise";
        for (int i = 0; i < text.length(); i++) {
            set(house, 3 + (4 + i) / 32, (4 + i) % 32, text.charAt(i));
        }
        set(house, 3, 2, text.length());
        run(house, "mend", "ok", "export", "book 1/a new 1 1 1;rule rise 0;give 0 0/" + check("book 1/a new 1 1 1;rule rise 0;give 0 0/"), "open a", "ok", "text", "new 1 1 1;rule rise 0;give 0 0");
    }

    private static String imported(String entries, int n) {
        String book = "book " + n + entries + "/";
        return "import " + book + check(book);
    }

    private static void imports() {
        sentence(3, "import B: \"no count\" when n is not how many entries it has; \"no check\" when m is not THE CHECK");
        PuzzleHouse house = loaded("new 1 1 2");
        run(house, imported("", 1), "no count", imported("/a new 1 1 1", 0), "no count", imported("/a new 1 1 1", 2), "no count", imported("/a new 1 1 1", 999), "no count",
            "import book 1/0", "no count", "import book 0/a new 0 1 1/0", "no count", "import book 1/a new 0 1 1/0", "no check", "import book 1/a new 1 1 1/1870", "no check",
            "import book 1/a new 1 1 1/67392", "no check", "list", ".", imported("", 0), "ok", "list", ".");
        sentence(3, "the answer with which load of the first of its texts that would be refused is refused");
        run(house, imported("/a new 0 1 1", 1), "no size", imported("/a new 1 1 1/b new 1 1 1;give 0 1", 2), "no symbol", imported("/a new 1 1 1;give 1 0/b new 0 1 1", 2), "no cell",
            imported("/a new 1 1 1;rule sum 100 0/b new 0 1 1", 2), "no number", imported("/a new 3 3 1;each pair rise;rule rise 0/b new 0 1 1", 2), "no room", "list", ".", "cut 0", "no cut");
        // Each text begins anew: what the one ahead of it had is not there.
        run(house, imported("/a new 3 3 4;give 8 3" + ";rule unlike 8".repeat(12) + "/b new 1 1 1;rule unlike 0", 2), "ok", "list", "a b .", "remove a", "ok", "remove b", "ok");
        sentence(3, "(The puzzle stays.)");
        run(house, "put 0 1", "ok", imported("/a new 3 3 4;give 8 3", 1), "ok", "text", "new 1 1 2", "state", "1", imported("/b new 0 1 1", 1), "no size", "text", "new 1 1 2", "state", "1");
        sentence(3, "else each entry in order is kept by its name, with THE TEXT of the puzzle that its text gives, as keep does it");
        run(house, imported("/b new 1 1 1/a new 1 1 3/b new 1 1 4", 3), "ok", "list", "a b .", "open a", "ok", "text", "new 1 1 3", "open b", "ok", "text", "new 1 1 4");
    }

    private static void importRooms() {
        sentence(3, "\"no room\" for the first one for which there is none (those ahead are kept)");
        PuzzleHouse house = new PuzzleHouse();
        StringBuilder entries = new StringBuilder();
        for (char c = 'a'; c < 'p'; c++) {
            entries.append("/").append(c).append(" new 1 1 1");
        }
        run(house, imported(entries.toString(), 15), "ok", "list", "a b c d e f g h i j k l m n o .", imported(entries + "/p new 1 1 1/a new 1 1 2", 17), "no room",
            "list", "a b c d e f g h i j k l m n o .", "open a", "ok", "text", "new 1 1 1", imported("/a new 1 1 2/p new 1 1 1/b new 1 1 2", 3), "no room", "list", "b c d e f g h i j k l m n o a .",
            "open a", "ok", "text", "new 1 1 2", "open b", "ok", "text", "new 1 1 1", "cut 0", "ok", "mend", "ok", "open a", "ok", "text", "new 1 1 1");
        // Two of twelve pages have room, the third one has not; the small one behind it is not looked at.
        house = new PuzzleHouse();
        run(house, imported("/a " + longestText() + "/b " + longestText() + "/c " + longestText() + "/d new 1 1 1", 4), "no room", "list", "a b .", "cut 418", "no cut", "cut 0", "ok", "mend", "ok", "list", "a .");
    }
}
