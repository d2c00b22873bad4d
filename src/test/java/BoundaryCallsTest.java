/** Boundary cases of the calls themselves: promises 1 to 6, and how long an object is used. */
public final class BoundaryCallsTest extends Boundary {
    private BoundaryCallsTest() {
    }

    public static void main(String[] args) {
        promise1();
        promise2();
        promise3();
        promise4();
        promise5();
        promise6();
        calls();
        finish();
    }

    private static void promise1() {
        sentence(1, "A puzzle of one cell and one symbol, an empty book, no items; nothing on the tape; no answer.");
        PuzzleHouse house = new PuzzleHouse();
        due("answer(0)", house.answer(0), -1);
        states(house, 0, 0, 1, 1, 0, 0, 0, 0, 0, 0);
        run(house, "list", ".", "table", "0 0 0;1 0 0;2 0 0;", "state", ".");
        due("ask(1) without a byte on the tape", new PuzzleHouse().ask(1), -1);
        sentence(1, "(At first W, H, S are 1, and there is nothing else.)");
        run(new PuzzleHouse(), "text", "new 1 1 1", "drop", "no rule", "give 1 0", "no cell", "give 0 1", "no symbol", "many", "1", "pick 0", "0");
        sentence(1, "one of whom is PRESENT (0 at first)");
        run(house, "person 1", "ok", "state", ".");
        due("state(8)", new PuzzleHouse().state(8), 0);
        house = new PuzzleHouse();
        for (int p = 0; p < 3; p++) {
            run(house, "person " + p, "ok", "undo", "no step", "redo 0", "no step", "marks 0", ".", "put 0 -", "same", "put 0 0", "ok", "undo", "ok", "state", ".", "undo", "no step", "redo 0", "ok", "state", "0");
        }
        sentence(1, "THE BOOK has 32 PAGES of 32 bytes, 0 at first, but that page 0 begins with 1.");
        house = new PuzzleHouse();
        bytes(house, 0, 1);
        for (int page = 1; page < 32; page++) {
            bytes(house, page);
        }
        sentence(1, "(At first the book is open, without entries.)");
        due("state(5)", house.state(5), 0);
        run(house, "export", "book 0/14257", "keep a", "ok");
    }

    private static void promise2() {
        sentence(2, "Twenty bytes come behind those on the tape: four of each number, the highest first: how many there are.");
        PuzzleHouse house = new PuzzleHouse();
        // "marks", blanks and digits: the fifth byte is the highest one of the second number.
        due("feed", house.feed(0x6d61726b, 0x73203000, 0x80818283, -1, Integer.MIN_VALUE), 20);
        due("ask(7)", house.ask(7), 1);
        due("feed", house.feed(0x6c6f6164, 0x206e6577, 0x20312031, 0x20323b67, 0x69766520), 20);
        due("feed", house.feed(0x30203100, 0, 0, 0, 0), 40);
        due("ask(23): load new 1 1 2;give 0 1", house.ask(23), 2);
        run(house, "text", "new 1 1 2;give 0 1");
        sentence(2, "-1, doing nothing, when there would be more than 3,200.");
        String most = "load new 1 1 2" + ";give 0 1".repeat(354);
        due("bytes of the request", most.length(), 3200);
        house = new PuzzleHouse();
        for (int i = 0; i < 160; i++) {
            int[] five = Talk.numbers(most, 20 * i);
            due("feed", house.feed(five[0], five[1], five[2], five[3], five[4]), 20 * (i + 1));
        }
        due("feed of bytes 3,201 to 3,220", house.feed(1, 2, 3, 4, 5), -1);
        due("feed again", house.feed(0, 0, 0, 0, 0), -1);
        due("state(6)", house.state(6), 3200);
        due("ask(3200): the bytes are as they were", Talk.read(house.ask(3200), house::answer), "ok");
        due("state(6)", house.state(6), 0);
        run(house, "text", "new 1 1 2;give 0 1");
        due("feed on the empty tape", house.feed(1, 2, 3, 4, 5), 20);
    }

    private static void promise3() {
        sentence(3, "-1, doing nothing, when n is below 0 or more than there are.");
        PuzzleHouse house = new PuzzleHouse();
        due("ask(1) on the empty tape", house.ask(1), -1);
        due("state(7)", house.state(7), 0);
        Talk.say(house, "text");
        Talk.feed(house, "new 2 2 2");
        for (int n : new int[] {-1, 21, Integer.MIN_VALUE, Integer.MAX_VALUE, -20}) {
            due("ask(" + n + ")", house.ask(n), -1);
            states(house, 0, 0, 1, 1, 0, 0, 20, 9, 0, 0);
        }
        due("the latest answer", Talk.read(9, house::answer), "new 1 1 1");
        due("ask(9)", house.ask(9), 2);
        sentence(3, "The first n bytes of the tape (which is empty then) are a request");
        due("state(6)", house.state(6), 0);
        due("ask(1) when it is empty", house.ask(1), -1);
        // No bytes at all are a request that ends too soon.
        due("ask(0) on the empty tape", Talk.read(house.ask(0), house::answer), "bad 0");
        Talk.feed(house, "text");
        due("ask(0)", Talk.read(house.ask(0), house::answer), "bad 0");
        due("state(6)", house.state(6), 0);
        Talk.feed(house, "text");
        due("ask(20): all that there are", Talk.read(house.ask(20), house::answer), "bad 4");
        Talk.feed(house, "text");
        due("ask(3)", Talk.read(house.ask(3), house::answer), "bad 3");
        run(house, "state", "....");
    }

    private static void promise4() {
        sentence(4, "Byte i of the latest answer; -1 when there is none.");
        PuzzleHouse house = new PuzzleHouse();
        due("answer(0)", house.answer(0), -1);
        Talk.say(house, "text");
        due("answer(0)", house.answer(0), (int) 'n');
        due("answer(8)", house.answer(8), (int) '1');
        for (int i : new int[] {-1, 9, 10, Integer.MAX_VALUE, Integer.MIN_VALUE}) {
            due("answer(" + i + ")", house.answer(i), -1);
        }
        house.ask(-1);
        due("answer(8) behind a call that did nothing", house.answer(8), (int) '1');
        Talk.say(house, "list");
        due("answer(0)", house.answer(0), (int) '.');
        due("answer(1), of a longer answer ahead of this one", house.answer(1), -1);
    }

    private static void promise5() {
        sentence(5, "\"check\", a blank and the latest answer (nothing, when there is none) are a request");
        due("checkAnswer without an answer", Talk.checkAnswer(new PuzzleHouse()), "bad 6");
        PuzzleHouse house = loaded("new 1 1 1");
        run(house, "prove", "b -0.0;u;");
        due("checkAnswer of a proof", Talk.checkAnswer(house), "proof 1");
        due("checkAnswer of its answer", Talk.checkAnswer(house), "bad 6");
        due("checkAnswer of \"bad 6\"", Talk.checkAnswer(house), "bad 7");
        sentence(5, "how many bytes that answer has (the tape stays).");
        run(house, "prove", "b -0.0;u;");
        Talk.feed(house, "text");
        due("checkAnswer()", house.checkAnswer(), 7);
        due("state(6)", house.state(6), 20);
        due("state(7)", house.state(7), 7);
        due("ask(4)", Talk.read(house.ask(4), house::answer), "new 1 1 1");
        longestAnswer();
    }

    /** Fifteen entries of one chain with the longest text: the longest answer that there is. */
    private static void longestAnswer() {
        PuzzleHouse house = loaded(longestText());
        run(house, "keep abcdefgh", "ok");
        int[] chains = new int[30];
        for (int i = 0; i < 30; i += 2) {
            chains[i] = 3;
            chains[i + 1] = 12;
        }
        root(house, 1, 15, chains);
        String book = "book 15" + ("/abcdefgh " + longestText()).repeat(15) + "/";
        run(house, "mend", "ok", "export", book + check(book));
        due("state(7)", house.state(7), 7 + 15 * 364 + 1 + ("" + check(book)).length());
        due("checkAnswer", Talk.checkAnswer(house), "bad 7");
    }

    private static void promise6() {
        sentence(6, "-1 for others.");
        PuzzleHouse house = loaded("new 3 3 4;each pair unlike;give 8 3");
        for (int what : new int[] {-1, 10, 11, Integer.MAX_VALUE, Integer.MIN_VALUE}) {
            due("state(" + what + ")", house.state(what), -1);
        }
        states(house, 12, 1, 9, 4, 0, 0, 0, 2, 0, 0);
        sentence(6, "4 steps back (done or undone) of who is present");
        run(house, "put 0 1", "ok", "put 1 1", "ok", "undo", "ok", "undo", "ok");
        due("state(4)", house.state(4), 2);
        run(house, "person 2", "ok");
        due("state(4)", house.state(4), 0);
        due("state(8)", house.state(8), 2);
        sentence(6, "5 entries of the book (-1: it is not open)");
        for (char c = 'a'; c < 'd'; c++) {
            run(house, "keep " + c, "ok");
        }
        due("state(5)", house.state(5), 3);
        run(house, "cut 0", "ok");
        due("state(5)", house.state(5), -1);
        run(house, "mend", "ok");
        due("state(5)", house.state(5), 2);
        due("poke", house.poke(31, 31, 1), true);
        due("state(5)", house.state(5), -1);
        sentence(6, "6 bytes on the tape, 7 bytes of the latest answer, 8 who is present, 9 items");
        PuzzleHouse fresh = new PuzzleHouse();
        for (int i = 0; i <= 160; i++) {
            due("state(6)", fresh.state(6), 20 * i);
            due("feed", fresh.feed(0, 0, 0, 0, 0), i < 160 ? 20 * i + 20 : -1);
        }
        due("state(6)", fresh.state(6), 3200);
        due("state(7)", fresh.state(7), 0);
        due("ask(3200)", fresh.ask(3200), 5);
        due("state(6)", fresh.state(6), 0);
        due("state(7)", fresh.state(7), 5);
        run(fresh, "keep a", "ok", "set a 1", "ok", "person 1", "ok");
        due("state(8)", fresh.state(8), 1);
        due("state(9)", fresh.state(9), 1);
        sentence(6, "0 rules, 1 givens, 2 cells, 3 symbols");
        for (int w = 1; w <= 3; w++) {
            for (int h = 1; h <= 3; h++) {
                Talk.say(house, "new " + w + " " + h + " " + (w + 1));
                states(house, 0, 0, w * h, w + 1);
            }
        }
    }

    private static void calls() {
        sentence(3, "An object is used for at most 512 calls after it has been made; what later calls answer is free.");
        PuzzleHouse house = new PuzzleHouse();
        due("feed", house.feed(0x6e657720, 0x31203120, 0x32000000, 0, 0), 20);
        due("ask(9): new 1 1 2", house.ask(9), 2);
        // 252 entries of which the first 100 have room, then two calls more: 2 + 504 + 6 are 512.
        for (int i = 0; i < 252; i++) {
            house.feed(0x70757420, 0x30203000 + (i % 2 << 8), 0, 0, 0);
            due("ask(7): put 0 " + i % 2, house.ask(7), i < 100 ? 2 : i % 2 == 0 ? 7 : 4);
        }
        due("state(4)", house.state(4), 100);
        due("byteAt(0, 0)", house.byteAt(0, 0), 1);
        due("poke(3, 0, 9)", house.poke(3, 0, 9), true);
        due("feed", house.feed(0x6d656e64, 0, 0, 0, 0), 20);
        due("ask(4): mend", house.ask(4), 2);
        due("the 512th call, answer(0)", house.answer(0), (int) 'o');
    }
}
