import java.io.IOException;
import java.nio.file.Files;
import java.nio.file.Path;

/** A test of boundary cases: each check names the promise and the sentence of the document that it holds. */
abstract class Boundary extends Checks {
    private static String document = "";
    private static String latest = "";
    private static int madeBefore = 0;

    /** The words must stand in the document, and at least one check must follow them. */
    static void sentence(int promise, String words) {
        close();
        latest = "promise " + promise + ", \"" + words + "\"";
        part(latest);
        due("looking for these words in the document", document().contains(words), true);
        madeBefore = made();
    }

    private static void close() {
        if (!latest.isEmpty()) {
            due("looking for checks", made() > madeBefore, true);
        }
    }

    private static String document() {
        if (document.isEmpty()) {
            try {
                document = Files.readString(Path.of("../shared/DOC.md"));
            } catch (IOException e) {
                document = "not found";
            }
        }
        return document;
    }

    static void finish() {
        close();
        end();
    }

    /** Makes one byte of a page another one; the book is not open then. */
    static void set(PuzzleHouse house, int page, int i, int value) {
        int is = house.byteAt(page, i);
        if (is != value) {
            due("poke(" + page + ", " + i + ")", house.poke(page, i, is ^ value), true);
        }
    }

    /** Writes a root page with these entries and its sum, and makes it the one that counts. */
    static void root(PuzzleHouse house, int page, int entries, int... chains) {
        int sum = entries;
        set(house, page, 0, entries);
        for (int i = 1; i < 31; i++) {
            int value = i - 1 < chains.length ? chains[i - 1] : 0;
            set(house, page, i, value);
            sum += value;
        }
        set(house, page, 31, sum % 251);
        set(house, 0, 0, page);
    }

    /** Bytes of a page from its first one on; those behind them must be 0. */
    static void bytes(PuzzleHouse house, int page, int... want) {
        for (int i = 0; i < 32; i++) {
            due("byteAt(" + page + ", " + i + ")", house.byteAt(page, i), i < want.length ? want[i] : 0);
        }
    }

    /** The longest text of a puzzle: twelve rules of 22 bytes and nine givens, 354 bytes. */
    static String longestText() {
        return "new 3 3 4" + ";rule count 99 0 1 2 3".repeat(12) + ";give 0 3;give 1 3;give 2 3;give 3 3;give 4 3;give 5 3"
            + ";give 6 3;give 7 3;give 8 3";
    }
}
