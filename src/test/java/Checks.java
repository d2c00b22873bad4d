/** What tests share: answers held against those that are due, told with the part of the document they belong to. */
abstract class Checks {
    private static int right = 0;
    private static int wrong = 0;
    private static String part = "";

    static void part(String name) {
        part = name;
    }

    static void due(String what, Object got, Object want) {
        if (got.equals(want)) {
            right++;
        } else {
            wrong++;
            System.out.println((part.isEmpty() ? "" : part + ": ") + what + " answered " + got + ", due is " + want);
        }
    }

    static void so(boolean is, String what) {
        due(what, is, true);
    }

    static int made() {
        return right + wrong;
    }

    /** Requests and the answers that are due, in turn. */
    static void run(PuzzleHouse house, String... rows) {
        for (int i = 0; i + 1 < rows.length; i += 2) {
            due(rows[i], Talk.say(house, rows[i]), rows[i + 1]);
        }
    }

    static PuzzleHouse loaded(String text) {
        PuzzleHouse house = new PuzzleHouse();
        run(house, "load " + text, "ok");
        return house;
    }

    static void on(String text, String... rows) {
        run(loaded(text), rows);
    }

    static void states(PuzzleHouse house, int... want) {
        for (int i = 0; i < want.length; i++) {
            due("state(" + i + ")", house.state(i), want[i]);
        }
    }

    /** THE CHECK of a book's text up to and with its last "/". */
    static int check(String text) {
        int check = 7;
        for (int i = 0; i < text.length(); i++) {
            check = (check * 31 + text.charAt(i)) % 65521;
        }
        return check;
    }

    static void end() {
        System.out.println(right + " passed, " + wrong + " failed");
        System.exit(wrong == 0 ? 0 : 1);
    }
}
