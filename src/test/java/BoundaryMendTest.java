import java.util.Arrays;

/** Boundary cases of promises 7 and 8: bytes of the book, bytes made others, and what mend says of them. */
public final class BoundaryMendTest extends Boundary {
    private BoundaryMendTest() {
    }

    public static void main(String[] args) {
        byteAt();
        poke();
        turns();
        sums();
        counts();
        chains();
        names();
        fits();
        texts();
        notLookedAt();
        torn();
        finish();
    }

    private static void byteAt() {
        sentence(7, "Byte i of a page of the book, 0 to 255; -1 when there is none such.");
        PuzzleHouse house = new PuzzleHouse();
        int[] none = {-1, 32, 33, 1024, Integer.MAX_VALUE, Integer.MIN_VALUE};
        for (int page = 0; page < 32; page++) {
            for (int other : none) {
                due("byteAt(" + page + ", " + other + ")", house.byteAt(page, other), -1);
                due("byteAt(" + other + ", " + page + ")", house.byteAt(other, page), -1);
            }
        }
        due("byteAt(-1, 32)", house.byteAt(-1, 32), -1);
        due("byteAt(32, -32)", house.byteAt(32, -32), -1);
        due("byteAt(0, 0)", house.byteAt(0, 0), 1);
        due("byteAt(31, 31)", house.byteAt(31, 31), 0);
        house.poke(31, 31, 255);
        due("byteAt(31, 31)", house.byteAt(31, 31), 255);
        house.poke(31, 31, 127);
        due("byteAt(31, 31)", house.byteAt(31, 31), 128);
    }

    private static void poke() {
        sentence(8, "false, doing nothing, when there is none such, or the mask is not 1 to 255.");
        PuzzleHouse house = new PuzzleHouse();
        int[][] refused = {{-1, 0, 1}, {32, 0, 1}, {0, -1, 1}, {0, 32, 1}, {31, 32, 255}, {32, 31, 255}, {0, 0, 0}, {31, 31, 256}, {0, 0, -1}, {0, 0, 257}, {0, 0, -255}, {0, 0, 511},
            {Integer.MAX_VALUE, 0, 1}, {Integer.MIN_VALUE, 0, 1}, {0, Integer.MAX_VALUE, 1}, {0, Integer.MIN_VALUE, 1}, {0, 0, Integer.MAX_VALUE}, {0, 0, Integer.MIN_VALUE}, {1, -32, 1}, {-1, 32, 1}};
        for (int[] at : refused) {
            due("poke(" + at[0] + ", " + at[1] + ", " + at[2] + ")", house.poke(at[0], at[1], at[2]), false);
        }
        due("state(5)", house.state(5), 0);
        bytes(house, 0, 1);
        for (int page = 1; page < 32; page++) {
            bytes(house, page);
        }
        run(house, "keep a", "ok");
        due("poke", house.poke(0, 0, 256), false);
        run(house, "cut 65", "ok");
        due("poke when it is not open", house.poke(0, 0, 0), false);
        sentence(8, "A byte of the book's pages is xored by a mask, and the book is not open then: true");
        for (int[] at : new int[][] {{0, 0}, {0, 31}, {1, 0}, {2, 31}, {3, 0}, {31, 0}, {31, 31}}) {
            for (int mask : new int[] {1, 128, 255}) {
                run(house = new PuzzleHouse(), "keep a", "ok");
                int was = house.byteAt(at[0], at[1]);
                due("poke(" + at[0] + ", " + at[1] + ", " + mask + ")", house.poke(at[0], at[1], mask), true);
                due("byteAt", house.byteAt(at[0], at[1]), was ^ mask);
                due("state(5)", house.state(5), -1);
                run(house, "list", "shut");
                due("poke again, when it is not open", house.poke(at[0], at[1], mask), true);
                due("byteAt", house.byteAt(at[0], at[1]), was);
                due("state(5): it is not open by being as it was", house.state(5), -1);
                run(house, "mend", "ok", "list", "a .");
            }
        }
    }

    private static void turns() {
        sentence(8, "\"torn\" when THE TURN is neither, the root's sum is not right, or an entry can't be");
        PuzzleHouse house = new PuzzleHouse();
        run(house, "keep a", "ok");
        for (int turn = 0; turn < 256; turn++) {
            set(house, 0, 0, turn);
            // Page 1 is as it was at first: a root without entries.
            run(house, "mend", turn == 1 || turn == 2 ? "ok" : "torn");
            due("state(5)", house.state(5), turn == 1 ? 0 : turn == 2 ? 1 : -1);
        }
    }

    private static void sums() {
        sentence(8, "its last byte is THE SUM of its other 31 bytes modulo 251.");
        PuzzleHouse house = new PuzzleHouse();
        run(house, "keep a", "ok");
        for (int sum = 0; sum < 256; sum++) {
            set(house, 2, 31, sum);
            run(house, "mend", sum == 5 ? "ok" : "torn");
        }
        set(house, 2, 31, 5);
        for (int i = 0; i < 31; i++) {
            due("poke", house.poke(2, i, 8), true);
            run(house, "mend", "torn");
            due("poke", house.poke(2, i, 8), true);
            run(house, "mend", "ok");
        }
        // Behind the entries any bytes may stand; the sum is 250, 251, 252, and the most that there is.
        house = new PuzzleHouse();
        for (int value = 249; value <= 253; value++) {
            set(house, 1, 1, value);
            for (int sum : new int[] {0, 1, 2, 249, 250, 251, 252, 253}) {
                set(house, 1, 31, sum);
                run(house, "mend", sum == value % 251 ? "ok" : "torn");
            }
        }
        int[] all = new int[30];
        Arrays.fill(all, 255);
        root(house, 1, 0, all);
        due("the sum of 30 times 255", house.byteAt(1, 31), 120);
        run(house, "mend", "ok", "list", ".", "keep a", "ok");
        bytes(house, 2, 1, 3, 1, 0, 0, 0, 0, 0, 0, 0, 0, 0, 0, 0, 0, 0, 0, 0, 0, 0, 0, 0, 0, 0, 0, 0, 0, 0, 0, 0, 0, 5);
    }

    private static void counts() {
        sentence(8, "(more than 15; a chain that is not so; a name that is none of one to eight letters; a name and text that do not fit into its pages; a text that is not right, or that load would refuse)");
        PuzzleHouse house = new PuzzleHouse();
        run(house, "keep a", "ok");
        int[] chains = new int[30];
        for (int i = 0; i < 30; i += 2) {
            chains[i] = 3;
            chains[i + 1] = 1;
        }
        for (int entries : new int[] {0, 1, 14, 15, 16, 17, 31, 127, 128, 255}) {
            root(house, 2, entries, chains);
            run(house, "mend", entries <= 15 ? "ok" : "torn");
            due("state(5)", house.state(5), entries <= 15 ? entries : -1);
        }
    }

    private static void chains() {
        sentence(8, "the first page of its CHAIN, and how many pages (at least 1, all of them pages 3 to 31)");
        PuzzleHouse house = new PuzzleHouse();
        run(house, "keep a", "ok");
        String text = "new 1 1 1";
        // The same chain in each page, so that it is the number that is looked at.
        for (int page = 3; page < 32; page++) {
            write(house, page, 1, "a", text.length(), text);
        }
        for (int first = 0; first < 256; first++) {
            for (int many : new int[] {0, 1, 2, 28, 29, 30, 31, 32, 255}) {
                if (first < 6 || first > 28 && first < 36 || many == 1 || first == 255) {
                    root(house, 2, 1, first, many);
                    run(house, "mend", first >= 3 && many >= 1 && first + many <= 32 ? "ok" : "torn");
                }
            }
        }
        // Of several entries each one must be so.
        root(house, 2, 3, 3, 1, 4, 1, 5, 0);
        run(house, "mend", "torn");
        root(house, 2, 3, 3, 1, 4, 0, 5, 1);
        run(house, "mend", "torn");
        root(house, 2, 2, 3, 1, 4, 1, 5, 0);
        run(house, "mend", "ok", "list", "a a .");
    }

    /** Writes a chain's beginning; what stands behind it stays. */
    private static void write(PuzzleHouse house, int page, int nameLength, String name, int textLength, String text) {
        String all = (char) nameLength + name + (char) (textLength % 256) + (char) (textLength / 256) + text;
        for (int i = 0; i < all.length(); i++) {
            set(house, page + i / 32, i % 32, all.charAt(i));
        }
    }

    private static void names() {
        sentence(8, "a name that is none of one to eight letters");
        for (int length = 0; length < 256; length++) {
            if (length < 14 || length > 250) {
                // The bytes behind the length are letters, then a text: of any length it would find one, if it looked for it.
                PuzzleHouse house = new PuzzleHouse();
                run(house, "keep a", "ok");
                write(house, 3, length, "abcdefghijklm".substring(0, Math.min(length, 13)), 9, "new 1 1 1");
                run(house, "mend", length >= 1 && length <= 8 ? "ok" : "torn");
            }
        }
        PuzzleHouse house = new PuzzleHouse();
        run(house, "keep abcdefgh", "ok");
        for (int i = 1; i <= 8; i++) {
            for (int b = 0; b < 256; b++) {
                set(house, 3, i, b);
                run(house, "mend", b >= 'a' && b <= 'z' ? "ok" : "torn");
            }
            set(house, 3, i, 'z');
        }
        run(house, "mend", "ok", "list", "zzzzzzzz .");
    }

    private static void fits() {
        sentence(8, "a name and text that do not fit into its pages");
        PuzzleHouse house = loaded("new 2 1 2;rule rise 0");
        // 8 + 3 + 21 bytes: the whole page.
        run(house, "keep abcdefgh", "ok", "mend", "ok", "list", "abcdefgh .");
        set(house, 4, 0, ' ');
        set(house, 4, 1, '1');
        set(house, 3, 9, 23);
        run(house, "mend", "torn");
        root(house, 2, 1, 3, 2);
        run(house, "mend", "ok", "open abcdefgh", "ok", "text", "new 2 1 2;rule rise 0 1");
        root(house, 2, 1, 3, 1);
        run(house, "mend", "torn");
        set(house, 3, 9, 21);
        run(house, "mend", "ok", "open abcdefgh", "ok", "text", "new 2 1 2;rule rise 0");
        // One byte too many, and a higher byte that makes the length far too great.
        set(house, 3, 9, 22);
        run(house, "mend", "torn");
        set(house, 3, 9, 21);
        for (int high : new int[] {1, 2, 127, 128, 255}) {
            set(house, 3, 10, high);
            run(house, "mend", "torn");
        }
        set(house, 3, 10, 0);
        run(house, "mend", "ok");
        // At the very end of the book.
        house = new PuzzleHouse();
        run(house, "keep a", "ok");
        write(house, 31, 8, "abcdefgh", 21, "new 2 1 2;rule rise 0");
        root(house, 2, 2, 3, 1, 31, 1);
        run(house, "mend", "ok", "list", "a abcdefgh .", "open abcdefgh", "ok", "text", "new 2 1 2;rule rise 0", "export",
            "book 2/a new 1 1 1/abcdefgh new 2 1 2;rule rise 0/" + check("book 2/a new 1 1 1/abcdefgh new 2 1 2;rule rise 0/"));
        for (int length : new int[] {22, 23, 255, 256, 65535}) {
            set(house, 31, 9, length % 256);
            set(house, 31, 10, length / 256);
            run(house, "mend", "torn");
        }
        // The longest chain there is: a text of 919 bytes in all 29 pages.
        String text = "new 1 1 1" + ";give 0 0".repeat(101) + ";x";
        house = new PuzzleHouse();
        write(house, 3, 5, "apple", text.length() - 2, text);
        root(house, 1, 1, 3, 29);
        run(house, "mend", "ok", "export", "book 1/apple new 1 1 1;give 0 0/" + check("book 1/apple new 1 1 1;give 0 0/"), "keep b", "no room", "keep apple", "no room");
        set(house, 3, 6, (text.length() - 1) % 256);
        run(house, "mend", "torn");
    }

    private static void texts() {
        sentence(8, "a text that is not right, or that load would refuse");
        String[] right = {"new 1 1 1", "new 3 3 4", "new 1 1 1;give 0 0", "new 1 1 1;rule sum 99 0", "new 3 3 4;each pair unlike;give 8 3", "new 3 3 1;rule unlike 0 1 2 8",
            "new 1 1 1" + ";rule unlike 0".repeat(12), longestText()};
        String[] wrong = {"", "n", "new 1 1", "new 1 1 1 ", "new 1 1 1;", "new 1 1 11", "New 1 1 1", "text", "load new 1 1 1", "new 1 1 1;give 0 -", "new 1 1 1;drop", "new 1 1 1\0",
            "new 0 1 1", "new 4 1 1", "new 1 4 1", "new 1 0 1", "new 1 1 0", "new 1 1 5", "new 1 1 1;give 1 0", "new 1 1 1;give 0 1", "new 1 1 1;rule sum 100 0", "new 1 1 1;rule unlike 1",
            "new 1 1 1;rule unlike 0 0", "new 3 3 1;rule unlike 0 1 2 3 4", "new 1 1 1" + ";rule unlike 0".repeat(13), "new 3 3 1;each pair unlike;rule rise 0", "new 1 1 1;each row seen 100"};
        for (int i = 0; i < right.length + wrong.length; i++) {
            String text = i < right.length ? right[i] : wrong[i - right.length];
            PuzzleHouse house = new PuzzleHouse();
            run(house, "keep z", "ok");
            write(house, 4, 1, "a", text.length(), text);
            root(house, 2, 2, 3, 1, 4, 1 + (4 + text.length()) / 32);
            due("mend with the text \"" + text + "\"", Talk.say(house, "mend"), i < right.length ? "ok" : "torn");
            run(house, "list", i < right.length ? "z a ." : "shut");
        }
    }

    private static void notLookedAt() {
        sentence(8, "(What else stands in pages is not looked at");
        PuzzleHouse house = new PuzzleHouse();
        run(house, "keep a", "ok");
        // Page 0 behind THE TURN, the other root page, the page behind the text, all free pages.
        for (int page = 0; page < 32; page++) {
            for (int i = 0; i < 32; i++) {
                if (page == 0 && i > 0 || page == 1 || page == 3 && i >= 13 || page > 3) {
                    set(house, page, i, 255 - i);
                }
            }
        }
        run(house, "mend", "ok", "list", "a .", "open a", "ok", "text", "new 1 1 1", "keep b", "ok", "list", "a b .");
        bytes(house, 1, 2, 3, 1, 4, 1, 0, 0, 0, 0, 0, 0, 0, 0, 0, 0, 0, 0, 0, 0, 0, 0, 0, 0, 0, 0, 0, 0, 0, 0, 0, 0, 11);
        bytes(house, 4, 1, 'b', 9, 0, 'n', 'e', 'w', ' ', '1', ' ', '1', ' ', '1');
        due("page 0 behind THE TURN stays", house.byteAt(0, 1), 254);
        due("the page behind stays", house.byteAt(5, 0), 255);
        // What stands behind the entries of the root page is none of them.
        root(house, 2, 1, 3, 1, 4, 1, 3, 1);
        run(house, "mend", "ok", "list", "a .", "find", "a .", "export", "book 1/a new 1 1 1/1871", "open b", "no name", "set b 1", "no name", "remove b", "no name", "keep b", "ok", "list", "a b .");
        due("the chain of b", house.byteAt(1, 3), 4);
        sentence(8, "FREE are pages from 3 on of no entry's chain.");
        // A chain of many pages keeps them from being free, whatever stands in them.
        root(house, 2, 1, 3, 28);
        run(house, "mend", "ok", "keep b", "ok");
        due("the chain of b", house.byteAt(1, 3), 31);
        run(house, "keep c", "no room", "remove a", "ok", "keep c", "ok", "list", "b c .");
    }

    private static void torn() {
        sentence(8, "then it is not open.");
        PuzzleHouse house = new PuzzleHouse();
        run(house, "keep a", "ok");
        due("poke", house.poke(3, 4, 1), true);
        for (int i = 0; i < 2; i++) {
            run(house, "mend", "torn", "list", "shut", "keep b", "shut", "open a", "shut", "remove a", "shut", "export", "shut", "import book 0/14257", "shut", "find", "shut", "set a 1", "shut", "cut 0", "no cut",
                "text", "new 1 1 1");
            due("state(5)", house.state(5), -1);
        }
        due("poke", house.poke(3, 4, 1), true);
        run(house, "list", "shut", "mend", "ok", "list", "a .", "mend", "ok", "list", "a .");
    }
}
