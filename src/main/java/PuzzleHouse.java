/** A house of puzzles: it is told requests as bytes on a tape and answers them as bytes. */
public final class PuzzleHouse {
    private static final int MOST_TAPE = 3200;
    /** Above the longest answer: a book of 15 entries as a text has 5,473 bytes at most. */
    private static final int MOST_ANSWER = 5600;
    private static final int MOST_PROOF = 3000;
    private static final int MOST_NODES = 100;
    private static final int MOST_TOLD = 100;
    private static final int MOST_RULES = 12;
    private static final int MOST_CELLS = 9;
    /** More than the answers of any puzzle (4 to the 9th). */
    private static final int ALL_ANSWERS = 1 << 20;

    private static final String OK = "ok";
    private static final String LONG = "long";
    private static final String NONE = "none";
    private static final String NOT_ONE = "not one";
    private static final String SHUT = "shut";
    private static final String NO_CELL = "no cell";
    private static final String NO_SYMBOL = "no symbol";
    private static final String NO_NUMBER = "no number";
    private static final String NO_ROOM = "no room";
    private static final String NO_NAME = "no name";
    private static final String NO_PERSON = "no person";
    private static final String NO_STEP = "no step";

    /** Requests about one thing stand together. */
    private static final String WORDS = "new rule each give drop text load answers many pick clash least make wrong prove check grade hint step solve teach form vary cover barred person put undo redo state mark marks contest set submit table keep open remove list cut mend export import find";
    private static final int NEW = 0;
    private static final int RULE = 1;
    private static final int EACH = 2;
    private static final int GIVE = 3;
    private static final int DROP = 4;
    private static final int TEXT = 5;
    private static final int LOAD = 6;
    private static final int ANSWERS = 7;
    private static final int MANY = 8;
    private static final int PICK = 9;
    private static final int CLASH = 10;
    private static final int LEAST = 11;
    private static final int MAKE = 12;
    private static final int WRONG = 13;
    private static final int PROVE = 14;
    private static final int CHECK = 15;
    private static final int GRADE = 16;
    private static final int HINT = 17;
    private static final int STEP = 18;
    private static final int SOLVE = 19;
    private static final int TEACH = 20;
    private static final int FORM = 21;
    private static final int VARY = 22;
    private static final int COVER = 23;
    private static final int BARRED = 24;
    private static final int PERSON = 25;
    private static final int PUT = 26;
    private static final int UNDO = 27;
    private static final int REDO = 28;
    private static final int STATE = 29;
    private static final int MARK = 30;
    private static final int MARKS = 31;
    private static final int CONTEST = 32;
    private static final int SET = 33;
    private static final int SUBMIT = 34;
    private static final int TABLE = 35;
    private static final int KEEP = 36;
    private static final int OPEN = 37;
    private static final int REMOVE = 38;
    private static final int LIST = 39;
    private static final int CUT = 40;
    private static final int MEND = 41;
    private static final int EXPORT = 42;
    private static final int IMPORT = 43;
    private static final int FIND = 44;

    /** The kinds stand in the order of their texts, so that a kind's number orders rules, too. */
    private static final String KINDS = "alike apart count joined rise seen sum unlike";
    private static final int ALIKE = 0;
    private static final int APART = 1;
    private static final int COUNT = 2;
    private static final int JOINED = 3;
    private static final int RISE = 4;
    private static final int SEEN = 5;
    private static final int SUM = 6;
    private static final int UNLIKE = 7;

    private static final String SIDES = "row column pair";
    private static final int ROW = 0;
    private static final int COLUMN = 1;

    /*
     * A STANDING is a long: four bits for each of ten cells, one for each symbol that the cell may have.
     * Cells that the puzzle has not (a tenth one always) may have symbol 0 alone, so that a rule of fewer
     * than four cells can be read as one of four, and no cell but a broken one has no bits.
     */
    private static final long EACH_CELL = 0x1111111111L;

    /** Of 64 ways (symbols of three cells, two bits each) those whose first symbol is in a set of symbols. */
    private static final long[] FIRST = {
        0x0000000000000000L, 0x1111111111111111L, 0x2222222222222222L, 0x3333333333333333L,
        0x4444444444444444L, 0x5555555555555555L, 0x6666666666666666L, 0x7777777777777777L,
        0x8888888888888888L, 0x9999999999999999L, 0xaaaaaaaaaaaaaaaaL, 0xbbbbbbbbbbbbbbbbL,
        0xccccccccccccccccL, 0xddddddddddddddddL, 0xeeeeeeeeeeeeeeeeL, 0xffffffffffffffffL,
    };
    private static final long[] SECOND = {
        0x0000000000000000L, 0x000f000f000f000fL, 0x00f000f000f000f0L, 0x00ff00ff00ff00ffL,
        0x0f000f000f000f00L, 0x0f0f0f0f0f0f0f0fL, 0x0ff00ff00ff00ff0L, 0x0fff0fff0fff0fffL,
        0xf000f000f000f000L, 0xf00ff00ff00ff00fL, 0xf0f0f0f0f0f0f0f0L, 0xf0fff0fff0fff0ffL,
        0xff00ff00ff00ff00L, 0xff0fff0fff0fff0fL, 0xfff0fff0fff0fff0L, 0xffffffffffffffffL,
    };
    private static final long[] THIRD = {
        0x0000000000000000L, 0x000000000000ffffL, 0x00000000ffff0000L, 0x00000000ffffffffL,
        0x0000ffff00000000L, 0x0000ffff0000ffffL, 0x0000ffffffff0000L, 0x0000ffffffffffffL,
        0xffff000000000000L, 0xffff00000000ffffL, 0xffff0000ffff0000L, 0xffff0000ffffffffL,
        0xffffffff00000000L, 0xffffffff0000ffffL, 0xffffffffffff0000L, 0xffffffffffffffffL,
    };

    private final char[] tape = new char[MOST_TAPE];
    private int taped = 0;
    private final char[] request = new char[MOST_ANSWER + 6];
    private final Out out = new Out(MOST_ANSWER);
    private final Out text = new Out(512);
    private final Scan scan = new Scan();
    private final Puzzle puzzle = new Puzzle();
    private final Puzzle spare = new Puzzle();
    private final Search search = new Search(puzzle, out);
    private final Reasons reasons = new Reasons(puzzle, out);
    private final Checker checker = new Checker(puzzle, out);
    private final Form form = new Form();
    private final Form otherForm = new Form();
    private final Covers covers = new Covers(puzzle, out);
    private final Play play = new Play();
    private final Contest contest = new Contest();
    private final Book book = new Book();

    public PuzzleHouse() {
    }

    public int feed(int a, int b, int c, int d, int e) {
        if (taped + 20 > MOST_TAPE) {
            return -1;
        }
        tapeNumber(a);
        tapeNumber(b);
        tapeNumber(c);
        tapeNumber(d);
        tapeNumber(e);
        return taped;
    }

    private void tapeNumber(int number) {
        for (int shift = 24; shift >= 0; shift -= 8) {
            tape[taped] = (char) (number >>> shift & 255);
            taped++;
        }
    }

    public int ask(int n) {
        if (n < 0 || n > taped) {
            return -1;
        }
        System.arraycopy(tape, 0, request, 0, n);
        taped = 0;
        respond(n);
        return out.length;
    }

    public int answer(int i) {
        if (i < 0 || i >= out.length) {
            return -1;
        }
        return out.at[i];
    }

    public int checkAnswer() {
        text.clear();
        text.put("check ");
        System.arraycopy(text.at, 0, request, 0, text.length);
        System.arraycopy(out.at, 0, request, text.length, out.length);
        respond(text.length + out.length);
        return out.length;
    }

    public int state(int what) {
        switch (what) {
            case 0: return puzzle.rules;
            case 1: return puzzle.givens();
            case 2: return puzzle.cells;
            case 3: return puzzle.symbols;
            case 4: return play.stepsBack();
            case 5: return book.isOpen ? book.entries() : -1;
            case 6: return taped;
            case 7: return out.length;
            case 8: return play.present;
            case 9: return contest.items;
            default: return -1;
        }
    }

    public int byteAt(int page, int i) {
        return Book.hasByte(page, i) ? book.pages[Book.PAGE * page + i] : -1;
    }

    public boolean poke(int page, int i, int mask) {
        if (!Book.hasByte(page, i) || mask < 1 || mask > 255) {
            return false;
        }
        book.spoil(Book.PAGE * page + i, mask);
        return true;
    }

    private void respond(int length) {
        scan.start(request, 0, length);
        int word = scan.choose(WORDS);
        readArguments(word);
        out.clear();
        if (scan.wrong || scan.place < length) {
            out.put("bad ");
            out.number(scan.place);
        } else if (word <= LOAD) {
            puzzleRequest(word);
        } else if (word <= WRONG) {
            answersRequest(word);
        } else if (word <= TEACH) {
            reasonsRequest(word);
        } else if (word <= BARRED) {
            variantsRequest(word);
        } else if (word <= MARKS) {
            playRequest(word);
        } else if (word <= TABLE) {
            contestRequest(word);
        } else if (book.isOpen || word == CUT || word == MEND) {
            bookRequest(word);
        } else {
            out.put(SHUT);
        }
    }

    private void readArguments(int word) {
        switch (word) {
            case NEW:
                scan.tellDigit(0);
                scan.tellDigit(1);
                scan.tellDigit(2);
                break;
            case GIVE: case PUT:
                scan.tellNumber(0, 3);
                scan.tellSymbol(1);
                break;
            case MAKE: case MARK:
                scan.tellNumber(0, 3);
                scan.tellDigit(1);
                break;
            case ANSWERS: case VARY: case COVER: case REDO: case MARKS: case CUT:
                scan.tellNumber(0, 3);
                break;
            case PICK:
                scan.tellNumber(0, 6);
                break;
            case PERSON:
                scan.tellDigit(0);
                break;
            case KEEP: case OPEN: case REMOVE:
                scan.tellName();
                break;
            case SET:
                scan.tellName();
                scan.tellNumber(0, 3);
                break;
            case SUBMIT:
                scan.tellDigit(0);
                scan.tellName();
                scan.tellNumber(1, 3);
                scan.tellDigits();
                break;
            default:
                readLongArguments(word);
                break;
        }
    }

    private void readLongArguments(int word) {
        switch (word) {
            case RULE:
                scan.kind();
                scan.ruleCells();
                break;
            case EACH:
                scan.side();
                scan.kind();
                break;
            case LOAD:
                scan.take(' ');
                scan.text(spare);
                break;
            case CHECK:
                scan.take(' ');
                checker.read(scan);
                break;
            case IMPORT:
                scan.take(' ');
                scan.book(spare);
                break;
            default:
                break;
        }
    }

    private void puzzleRequest(int word) {
        int before = puzzle.rules;
        String refused = "";
        switch (word) {
            case NEW: refused = puzzle.renew(scan.told[0], scan.told[1], scan.told[2]); break;
            case RULE: refused = puzzle.addRule(scan.kind, scan.number, scan.cells, scan.cellCount); break;
            case EACH: refused = puzzle.addEach(scan.side, scan.kind, scan.number); break;
            case GIVE: refused = puzzle.give(scan.told[0], scan.told[1]); break;
            case DROP: refused = puzzle.drop(); break;
            case LOAD: refused = scan.refused; break;
            default:
                puzzle.write(out);
                return;
        }
        if (!refused.isEmpty()) {
            out.put(refused);
            return;
        }
        if (word == LOAD) {
            puzzle.copy(spare);
        }
        play.begin();
        if (word == RULE) {
            out.put("rule ");
            out.number(before);
        } else if (word == EACH) {
            out.put("rules ");
            out.number(puzzle.rules - before);
        } else {
            out.put(OK);
        }
    }

    private void answersRequest(int word) {
        puzzle.learn();
        switch (word) {
            case ANSWERS:
                search.list(scan.told[0]);
                break;
            case MANY:
                out.number(search.count(puzzle.first(), ALL_ANSWERS));
                break;
            case PICK:
                search.writePick(scan.told[0]);
                break;
            case CLASH:
                search.clash();
                break;
            case LEAST:
                if (search.least()) {
                    play.begin();
                }
                break;
            case MAKE:
                if (search.make(scan.told[0], scan.told[1])) {
                    play.begin();
                }
                break;
            default:
                countWrong();
                break;
        }
    }

    private void countWrong() {
        long first = puzzle.first();
        if (search.count(first, 2) != 1) {
            out.put(NOT_ONE);
        } else {
            out.number(play.wrongEntries(search.pick(first, 0)));
        }
    }

    private void reasonsRequest(int word) {
        puzzle.learn();
        switch (word) {
            case PROVE: reasons.prove(); break;
            case CHECK: checker.verdict(); break;
            case GRADE: reasons.grade(); break;
            case HINT: reasons.hint(play.standing(puzzle)); break;
            case STEP: reasons.step(play.standing(puzzle)); break;
            case SOLVE: reasons.solve(play.standing(puzzle)); break;
            default: reasons.teach(); break;
        }
    }

    private void variantsRequest(int word) {
        switch (word) {
            case FORM:
                form.take(puzzle);
                form.restore(spare);
                spare.write(out);
                break;
            case VARY:
                spare.copy(puzzle);
                form.vary(spare, scan.told[0], puzzle);
                play.begin();
                out.put(OK);
                break;
            case COVER:
                covers.list(scan.told[0]);
                break;
            default:
                covers.barred();
                break;
        }
    }

    private void playRequest(int word) {
        int first = scan.told[0];
        switch (word) {
            case PERSON: out.put(play.enter(first)); break;
            case PUT: out.put(play.put(puzzle, first, scan.told[1])); break;
            case UNDO: out.put(play.undo()); break;
            case REDO: out.put(play.redo(first)); break;
            case STATE: play.write(puzzle, out); break;
            case MARK: out.put(play.mark(puzzle, first, scan.told[1])); break;
            default: play.writeMarks(puzzle, first, out); break;
        }
    }

    private void contestRequest(int word) {
        switch (word) {
            case CONTEST:
                contest.items = 0;
                out.put(OK);
                break;
            case SET:
                setItem();
                break;
            case SUBMIT:
                out.put(contest.submit(scan, scan.told[0], scan.told[1]));
                break;
            default:
                contest.writeTable(out);
                break;
        }
    }

    private void setItem() {
        if (!book.isOpen) {
            out.put(SHUT);
            return;
        }
        int entry = book.entryOf(request, scan.nameFrom, scan.nameLength);
        if (entry < 0 || !book.read(entry, spare)) {
            out.put(NO_NAME);
            return;
        }
        out.put(contest.add(scan, scan.told[0], spare));
    }

    private void bookRequest(int word) {
        switch (word) {
            case KEEP:
                text.clear();
                puzzle.write(text);
                out.put(book.keep(request, scan.nameFrom, scan.nameLength, text) ? OK : NO_ROOM);
                break;
            case OPEN:
                openEntry();
                break;
            case REMOVE:
                out.put(book.remove(request, scan.nameFrom, scan.nameLength) ? OK : NO_NAME);
                break;
            case LIST:
                for (int i = 0; i < book.entries(); i++) {
                    book.writeName(i, out);
                }
                out.put('.');
                break;
            case CUT:
                out.put(book.cut(scan.told[0]) ? OK : "no cut");
                break;
            case MEND:
                out.put(book.mend(spare) ? OK : "torn");
                break;
            case EXPORT:
                exportBook();
                break;
            case IMPORT:
                importBook();
                break;
            default:
                findSame();
                break;
        }
    }

    private void openEntry() {
        int entry = book.entryOf(request, scan.nameFrom, scan.nameLength);
        if (entry < 0 || !book.read(entry, spare)) {
            out.put(NO_NAME);
            return;
        }
        puzzle.copy(spare);
        play.begin();
        out.put(OK);
    }

    private void findSame() {
        form.take(puzzle);
        for (int i = 0; i < book.entries(); i++) {
            if (book.read(i, spare)) {
                otherForm.take(spare);
                if (otherForm.same(form)) {
                    book.writeName(i, out);
                }
            }
        }
        out.put('.');
    }

    private void exportBook() {
        out.put("book ");
        out.number(book.entries());
        for (int i = 0; i < book.entries(); i++) {
            out.put('/');
            book.writeName(i, out);
            if (book.read(i, spare)) {
                spare.write(out);
            }
        }
        out.put('/');
        out.number(checkOf(out.at, 0, out.length));
    }

    private void importBook() {
        int entries = scan.told[1];
        if (scan.told[0] != entries) {
            out.put("no count");
            return;
        }
        if (scan.told[2] != scan.told[3]) {
            out.put("no check");
            return;
        }
        if (!scan.refused.isEmpty()) {
            out.put(scan.refused);
            return;
        }
        scan.again(scan.bookFrom);
        for (int i = 0; i < entries; i++) {
            scan.take('/');
            scan.name();
            scan.take(' ');
            scan.text(spare);
            text.clear();
            spare.write(text);
            if (!book.keep(request, scan.nameFrom, scan.nameLength, text)) {
                out.put(NO_ROOM);
                return;
            }
        }
        out.put(OK);
    }

    private static int checkOf(char[] bytes, int from, int to) {
        int check = 7;
        for (int i = from; i < to; i++) {
            check = (check * 31 + bytes[i]) % 65521;
        }
        return check;
    }

    private static boolean isDigit(char c) {
        return c >= '0' && c <= '9';
    }

    private static boolean isLetter(char c) {
        return c >= 'a' && c <= 'z';
    }

    /** The least symbol, cell or rule in a set of bits that is not empty. */
    private static int lowest(int bits) {
        return Integer.bitCount((bits & -bits) - 1);
    }

    private static int may(long standing, int cell) {
        return (int) (standing >>> 4 * cell) & 15;
    }

    private static long only(long standing, int cell, int symbol) {
        return standing & ~(15L << 4 * cell) | 1L << 4 * cell + symbol;
    }

    private static long without(long standing, int cell, int symbol) {
        return standing & ~(1L << 4 * cell + symbol);
    }

    /** Whether a cell may have nothing. */
    private static boolean isBroken(long standing) {
        long some = standing | standing >>> 1 | standing >>> 2 | standing >>> 3;
        return (some & EACH_CELL) != EACH_CELL;
    }

    /** Whether each cell of a standing that is not broken may have one symbol alone. */
    private static boolean isFilling(long standing) {
        return (standing & standing - EACH_CELL) == 0;
    }

    /** Of a standing that is not broken: the bits of cells that may have one symbol alone. */
    private static long settled(long standing) {
        long more = standing & standing - EACH_CELL;
        long cells = (more | more >>> 1 | more >>> 2 | more >>> 3) & EACH_CELL;
        return standing & ~(cells * 15);
    }

    /** A text that is written byte by byte; what does not fit is left out. */
    private static final class Out {
        final char[] at;
        int length = 0;

        Out(int most) {
            at = new char[Math.max(most, 0)];
        }

        void clear() {
            length = 0;
        }

        void put(char c) {
            if (length < at.length) {
                at[length] = c;
                length++;
            }
        }

        void put(String words) {
            for (int i = 0; i < words.length() && length < at.length; i++) {
                at[length] = words.charAt(i);
                length++;
            }
        }

        void number(int value) {
            int scale = 1;
            for (int i = 0; i < 8 && value / scale >= 10; i++) {
                scale *= 10;
            }
            for (; scale > 0 && length < at.length; scale /= 10) {
                at[length] = (char) ('0' + value / scale % 10);
                length++;
            }
        }

        /** A literal of a cell for each of some symbols, rising. */
        void literals(char sign, int cell, int symbols) {
            for (int symbol = 0; symbol < 4; symbol++) {
                if ((symbols >> symbol & 1) != 0 && length + 5 <= at.length) {
                    at[length] = ' ';
                    at[length + 1] = sign;
                    at[length + 2] = (char) ('0' + cell);
                    at[length + 3] = '.';
                    at[length + 4] = (char) ('0' + symbol);
                    length += 5;
                }
            }
        }
    }

    /** Reads bytes by the grammar; once one is wrong its place stays, and nothing more is read. */
    private static final class Scan {
        char[] source = new char[0];
        int place = 0;
        int end = 0;
        boolean wrong = false;
        /** With what the first refused part of texts was refused; empty when none was. */
        String refused = "";
        final int[] told = new int[4];
        int nameFrom = 0;
        int nameLength = 0;
        int digitsFrom = 0;
        int digits = 0;
        int side = 0;
        int kind = 0;
        int number = 0;
        final int[] cells = new int[4];
        int cellCount = 0;
        int bookFrom = 0;

        void start(char[] bytes, int from, int to) {
            source = bytes;
            place = Math.max(from, 0);
            end = Math.min(to, bytes.length);
            wrong = false;
            refused = "";
        }

        void again(int from) {
            place = Math.max(from, 0);
        }

        boolean ahead(char c) {
            return !wrong && place < end && source[place] == c;
        }

        void take(char c) {
            if (wrong || place >= end || source[place] != c) {
                wrong = true;
            } else {
                place++;
            }
        }

        /** Which of some words, with blanks between them, stands here: the longest that does, or -1. */
        int choose(String words) {
            int best = -1;
            int bestLength = 0;
            int reached = 0;
            int index = 0;
            int length = 0;
            int alike = 0;
            for (int i = 0; i <= words.length() && !wrong; i++) {
                if (i == words.length() || words.charAt(i) == ' ') {
                    if (alike == length && alike > bestLength) {
                        best = index;
                        bestLength = alike;
                    }
                    reached = Math.max(reached, alike);
                    index++;
                    length = 0;
                    alike = 0;
                } else {
                    int at = place + alike;
                    alike += alike == length && at < end && source[at] == words.charAt(i) ? 1 : 0;
                    length++;
                }
            }
            wrong = wrong || best < 0;
            place += best < 0 ? reached : bestLength;
            return best;
        }

        int number(int most) {
            if (wrong || place >= end || source[place] < '0' || source[place] > '9') {
                wrong = true;
                return 0;
            }
            int value = source[place] - '0';
            place++;
            for (int i = 1; i < most && value > 0 && place < end; i++) {
                if (source[place] < '0' || source[place] > '9') {
                    return value;
                }
                value = value * 10 + source[place] - '0';
                place++;
            }
            return value;
        }

        void tellNumber(int index, int most) {
            take(' ');
            told[index] = number(most);
        }

        void tellDigit(int index) {
            take(' ');
            told[index] = number(1);
        }

        /** A digit, or "-", which is told as -1. */
        void tellSymbol(int index) {
            take(' ');
            if (ahead('-')) {
                place++;
                told[index] = -1;
            } else {
                told[index] = number(1);
            }
        }

        void tellName() {
            take(' ');
            name();
        }

        void name() {
            nameFrom = place;
            nameLength = 0;
            while (!wrong && nameLength < 8 && place < end && isLetter(source[place])) {
                place++;
                nameLength++;
            }
            wrong = wrong || nameLength == 0;
        }

        void tellDigits() {
            take(' ');
            digitsFrom = place;
            digits = 0;
            while (!wrong && place < end && isDigit(source[place])) {
                place++;
                digits++;
            }
            wrong = wrong || digits == 0;
        }

        void side() {
            take(' ');
            side = choose(SIDES);
        }

        void kind() {
            take(' ');
            kind = choose(KINDS);
            number = 0;
            if (Puzzle.hasNumber(kind)) {
                take(' ');
                number = number(3);
            }
        }

        /** Of more than four cells only how many there are is told. */
        void ruleCells() {
            cellCount = 0;
            for (int i = place; i <= end && !wrong && (cellCount == 0 || ahead(' ')); i++) {
                take(' ');
                int cell = number(3);
                if (cellCount < cells.length) {
                    cells[cellCount] = cell;
                }
                cellCount++;
            }
        }

        /** A puzzle's text: what it says is done to another puzzle, up to what is refused. */
        void text(Puzzle into) {
            choose("new");
            for (int i = 0; i < 3; i++) {
                take(' ');
                cells[i] = number(1);
            }
            if (!wrong && refused.isEmpty()) {
                refused = into.renew(cells[0], cells[1], cells[2]);
            }
            for (int i = place; i <= end && ahead(';'); i++) {
                place++;
                int part = choose("rule each give");
                if (part == 0) {
                    kind();
                    ruleCells();
                } else if (part == 1) {
                    side();
                    kind();
                } else {
                    take(' ');
                    cells[0] = number(3);
                    take(' ');
                    cells[1] = number(1);
                }
                if (!wrong && refused.isEmpty()) {
                    refused = part == 0 ? into.addRule(kind, number, cells, cellCount)
                        : part == 1 ? into.addEach(side, kind, number)
                        : into.give(cells[0], cells[1]);
                }
            }
        }

        /** Tells the number of entries as told and as they are, and the check as due and as told. */
        void book(Puzzle into) {
            int from = place;
            choose("book");
            tellNumber(0, 3);
            bookFrom = place;
            told[1] = 0;
            boolean more = true;
            for (int i = place; i <= end && more && !wrong; i++) {
                take('/');
                more = !wrong && place < end && isLetter(source[place]);
                if (more) {
                    name();
                    take(' ');
                    text(into);
                    told[1]++;
                }
            }
            told[2] = checkOf(source, from, place);
            told[3] = number(6);
        }
    }

    /** A puzzle, and of each rule the ways to fill its cells that meet it. */
    private static final class Puzzle {
        int width = 1;
        int height = 1;
        int cells = 1;
        int symbols = 1;
        int rules = 0;
        final int[] kind = new int[MOST_RULES];
        final int[] number = new int[MOST_RULES];
        final int[] size = new int[MOST_RULES];
        /** Four cells of each rule; cell 9 stands for those that it has not. */
        final int[] cell = new int[4 * MOST_RULES];
        /** The cells of each rule as bits. */
        final int[] area = new int[MOST_RULES];
        /** The given symbol of each cell, or -1. */
        final int[] given = new int[MOST_CELLS];
        /** 256 bits of each rule: a way's bit is at first + 4 second + 16 third + 64 fourth symbol. */
        private final long[] ways = new long[4 * MOST_RULES];
        /** Of how many rules, from 0 on, the ways are known. */
        private int known = 0;
        private final int[] line = new int[4];

        Puzzle() {
            for (int i = 0; i < MOST_CELLS; i++) {
                given[i] = -1;
            }
        }

        static boolean hasNumber(int kind) {
            return kind == SUM || kind == COUNT || kind == APART || kind == SEEN;
        }

        int givens() {
            int many = 0;
            for (int i = 0; i < MOST_CELLS; i++) {
                many += given[i] >= 0 ? 1 : 0;
            }
            return many;
        }

        String renew(int w, int h, int s) {
            if (w < 1 || w > 3 || h < 1 || h > 3 || s < 1 || s > 4) {
                return "no size";
            }
            width = w;
            height = h;
            cells = w * h;
            symbols = s;
            rules = 0;
            known = 0;
            for (int i = 0; i < MOST_CELLS; i++) {
                given[i] = -1;
            }
            return "";
        }

        void copy(Puzzle other) {
            width = other.width;
            height = other.height;
            cells = other.cells;
            symbols = other.symbols;
            rules = other.rules;
            known = 0;
            System.arraycopy(other.kind, 0, kind, 0, MOST_RULES);
            System.arraycopy(other.number, 0, number, 0, MOST_RULES);
            System.arraycopy(other.size, 0, size, 0, MOST_RULES);
            System.arraycopy(other.cell, 0, cell, 0, 4 * MOST_RULES);
            System.arraycopy(other.area, 0, area, 0, MOST_RULES);
            System.arraycopy(other.given, 0, given, 0, MOST_CELLS);
        }

        String addRule(int newKind, int newNumber, int[] newCells, int count) {
            if (!areCells(newCells, count)) {
                return NO_CELL;
            }
            if (newNumber > 99) {
                return NO_NUMBER;
            }
            if (rules >= MOST_RULES) {
                return NO_ROOM;
            }
            append(newKind, newNumber, newCells, count);
            return "";
        }

        private boolean areCells(int[] newCells, int count) {
            if (count < 1 || count > 4 || count > newCells.length) {
                return false;
            }
            int seen = 0;
            for (int i = 0; i < count; i++) {
                int c = newCells[i];
                if (c < 0 || c >= cells || (seen >> c & 1) != 0) {
                    return false;
                }
                seen |= 1 << c;
            }
            return true;
        }

        private void append(int newKind, int newNumber, int[] newCells, int count) {
            if (rules >= MOST_RULES || count < 1) {
                return;
            }
            kind[rules] = newKind;
            number[rules] = newNumber;
            size[rules] = count;
            area[rules] = 0;
            for (int i = 0; i < 4; i++) {
                cell[4 * rules + i] = i < count ? newCells[i] : MOST_CELLS;
                area[rules] |= i < count ? 1 << newCells[i] : 0;
            }
            rules++;
        }

        String addEach(int side, int newKind, int newNumber) {
            if (newNumber > 99) {
                return NO_NUMBER;
            }
            int pairs = (width - 1) * height + width * (height - 1);
            int more = side == ROW ? height : side == COLUMN ? width : pairs;
            if (rules + more > MOST_RULES) {
                return NO_ROOM;
            }
            for (int c = 0; c < cells; c++) {
                for (int by = 0; by < 2; by++) {
                    int count = lineFrom(side, across(c), down(c), by == 0);
                    for (int i = 0; i < count; i++) {
                        line[i] = c + (by == 0 ? i : width * i);
                    }
                    append(newKind, newNumber, line, count);
                }
            }
            return "";
        }

        private int across(int c) {
            return c % Math.max(width, 1);
        }

        private int down(int c) {
            return c / Math.max(width, 1);
        }

        /** How many cells a row, column or pair has that begins here and goes across or down; 0 when none does. */
        private int lineFrom(int side, int x, int y, boolean across) {
            if (side == ROW) {
                return across && x == 0 ? width : 0;
            }
            if (side == COLUMN) {
                return !across && y == 0 ? height : 0;
            }
            return across && x + 1 < width || !across && y + 1 < height ? 2 : 0;
        }

        /** Tells a given, or, with symbol -1, that there is none. */
        String give(int c, int symbol) {
            if (c < 0 || c >= cells) {
                return NO_CELL;
            }
            if (symbol >= symbols) {
                return NO_SYMBOL;
            }
            given[c] = symbol;
            return "";
        }

        String drop() {
            if (rules == 0) {
                return "no rule";
            }
            rules--;
            known = Math.min(known, rules);
            return "";
        }

        void write(Out out) {
            out.put("new ");
            out.number(width);
            out.put(' ');
            out.number(height);
            out.put(' ');
            out.number(symbols);
            for (int r = 0; r < rules; r++) {
                writeRule(r, out);
            }
            for (int c = 0; c < cells; c++) {
                if (given[c] >= 0) {
                    out.put(";give ");
                    out.number(c);
                    out.put(' ');
                    out.number(given[c]);
                }
            }
        }

        private void writeRule(int r, Out out) {
            out.put(";rule ");
            out.put(kindName(kind[r]));
            if (hasNumber(kind[r])) {
                out.put(' ');
                out.number(number[r]);
            }
            for (int i = 0; i < size[r]; i++) {
                out.put(' ');
                out.number(cell[4 * r + i]);
            }
        }

        private static String kindName(int kind) {
            switch (kind) {
                case ALIKE: return "alike";
                case APART: return "apart";
                case COUNT: return "count";
                case JOINED: return "joined";
                case RISE: return "rise";
                case SEEN: return "seen";
                case SUM: return "sum";
                default: return "unlike";
            }
        }

        /** The standing in which each cell may have all symbols. */
        long free() {
            long standing = EACH_CELL;
            for (int c = 0; c < cells; c++) {
                standing |= (1L << symbols) - 1 << 4 * c;
            }
            return standing;
        }

        /** The standing of the first node. */
        long first() {
            long standing = free();
            for (int c = 0; c < cells; c++) {
                if (given[c] >= 0) {
                    standing = only(standing, c, given[c]);
                }
            }
            return standing;
        }

        boolean isAnswer(long filling) {
            for (int c = 0; c < cells; c++) {
                if (given[c] >= 0 && may(filling, c) != 1 << given[c]) {
                    return false;
                }
            }
            return canMeet(filling, (1 << cells) - 1);
        }

        /** Finds the ways of rules of which they are not known yet; what looks at ways wants this ahead of it. */
        void learn() {
            for (int r = known; r < rules; r++) {
                int hanging = kind[r] == JOINED ? hanging(r) : 0;
                for (int i = 0; i < 4; i++) {
                    ways[4 * r + i] = 0;
                }
                for (int way = 0; way < 1 << 2 * size[r]; way++) {
                    if (isMet(r, way, hanging)) {
                        ways[4 * r + (way >> 6)] |= 1L << (way & 63);
                    }
                }
            }
            known = rules;
        }

        private boolean isMet(int r, int way, int hanging) {
            int sum = 0;
            int alike = 0;
            int seen = 0;
            int highest = -1;
            int ones = 0;
            int used = 0;
            boolean rises = true;
            int nearest = 99;
            int ahead = way & 3;
            for (int i = 0; i < size[r]; i++) {
                int symbol = way >> 2 * i & 3;
                sum += symbol;
                alike += symbol == (way & 3) ? 1 : 0;
                ones |= symbol == 1 ? 1 << i : 0;
                used |= 1 << symbol;
                if (symbol > highest) {
                    seen++;
                    highest = symbol;
                }
                if (i > 0) {
                    rises = rises && symbol > ahead;
                    nearest = Math.min(nearest, Math.abs(symbol - ahead));
                }
                ahead = symbol;
            }
            if (highest >= symbols) {
                return false;
            }
            switch (kind[r]) {
                case ALIKE: return alike == size[r];
                case APART: return nearest >= number[r];
                case COUNT: return alike == number[r];
                case JOINED: return (hanging >> ones & 1) != 0;
                case RISE: return rises;
                case SEEN: return seen == number[r];
                case SUM: return sum == number[r];
                default: return Integer.bitCount(used) == size[r];
            }
        }

        /** For each set of a rule's cells a bit: whether they hang together. */
        private int hanging(int r) {
            for (int i = 0; i < 4; i++) {
                line[i] = 0;
                for (int j = 0; j < size[r] && i < size[r]; j++) {
                    int a = cell[4 * r + i];
                    int b = cell[4 * r + j];
                    int away = Math.abs(across(a) - across(b)) + Math.abs(down(a) - down(b));
                    line[i] |= away == 1 ? 1 << j : 0;
                }
            }
            int hanging = 0;
            for (int set = 0; set < 16; set++) {
                int reached = set & -set;
                for (int round = 0; round < 3; round++) {
                    for (int i = 0; i < 4; i++) {
                        reached |= (reached >> i & 1) != 0 ? line[i] & set : 0;
                    }
                }
                hanging |= reached == set ? 1 << set : 0;
            }
            return hanging;
        }

        /** Whether each rule that has one of some cells (as bits) has a way left. */
        boolean canMeet(long standing, int touched) {
            for (int r = 0; r < rules; r++) {
                if ((area[r] & touched) != 0) {
                    int at = 4 * r;
                    long within = FIRST[(int) (standing >>> 4 * cell[at]) & 15]
                        & SECOND[(int) (standing >>> 4 * cell[at + 1]) & 15]
                        & THIRD[(int) (standing >>> 4 * cell[at + 2]) & 15];
                    int fourth = (int) (standing >>> 4 * cell[at + 3]) & 15;
                    long left = 0;
                    for (int symbol = 0; symbol < 4 && left == 0; symbol++) {
                        left = (fourth >> symbol & 1) != 0 ? ways[at + symbol] & within : 0;
                    }
                    if (left == 0) {
                        return false;
                    }
                }
            }
            return true;
        }

        /** Of each of the rule's cells, four bits each, the symbols that it may have and that are not out. */
        int supports(int r, long standing) {
            int at = 4 * r;
            long within = FIRST[(int) (standing >>> 4 * cell[at]) & 15]
                & SECOND[(int) (standing >>> 4 * cell[at + 1]) & 15]
                & THIRD[(int) (standing >>> 4 * cell[at + 2]) & 15];
            int fourth = (int) (standing >>> 4 * cell[at + 3]) & 15;
            long met = 0;
            int found = 0;
            for (int symbol = 0; symbol < 4; symbol++) {
                long here = (fourth >> symbol & 1) != 0 ? ways[at + symbol] & within : 0;
                met |= here;
                found |= here != 0 ? 4096 << symbol : 0;
            }
            for (int symbol = 0; symbol < 4 && met != 0; symbol++) {
                found |= (met & FIRST[1 << symbol]) != 0 ? 1 << symbol : 0;
                found |= (met & SECOND[1 << symbol]) != 0 ? 16 << symbol : 0;
                found |= (met & THIRD[1 << symbol]) != 0 ? 256 << symbol : 0;
            }
            return found;
        }

        /**
         * The symbols of two rules' cells that are not out by both, as a standing of these cells alone; 0 when
         * no way meets both. Common cells, as bits, are those still to be settled: without any of them what
         * one rule allows does not depend on the other.
         */
        private long jointly(int r, int q, long standing, int common) {
            int ofR = supports(r, standing);
            int ofQ = supports(q, standing);
            long found = 0;
            if (ofR == 0 || ofQ == 0) {
                return found;
            }
            if (common == 0) {
                for (int i = 0; i < 4; i++) {
                    found |= (long) (ofR >> 4 * i & 15) << 4 * cell[4 * r + i];
                    found |= (long) (ofQ >> 4 * i & 15) << 4 * cell[4 * q + i];
                }
                return found;
            }
            int c = lowest(common);
            for (int symbol = 0; symbol < 4; symbol++) {
                if ((may(standing, c) >> symbol & 1) != 0) {
                    found |= jointly(r, q, only(standing, c, symbol), common & common - 1);
                }
            }
            return found;
        }
    }

    /** Counts, lists and picks answers, and tells which givens matter to them. */
    private static final class Search {
        private final Puzzle puzzle;
        private final Out out;
        private int most = 0;
        private int listed = 0;
        private long drawn = 0;
        private final int[] row = new int[MOST_CELLS];

        Search(Puzzle puzzle, Out out) {
            this.puzzle = puzzle;
            this.out = out;
        }

        /** How many answers a standing has, at most so many as the limit. */
        int count(long standing, int limit) {
            if (!puzzle.canMeet(standing, (1 << puzzle.cells) - 1)) {
                return 0;
            }
            int rest = 0;
            for (int c = 0; c < puzzle.cells; c++) {
                rest |= Integer.bitCount(may(standing, c)) > 1 ? 1 << c : 0;
            }
            int total = 1;
            for (int i = 0; i < MOST_CELLS && rest != 0 && total > 0; i++) {
                int part = partOf(rest);
                total *= countPart(standing, part, limit);
                rest &= ~part;
            }
            return Math.min(total, limit);
        }

        /** The open cells that hang together by rules with the least one: apart from others they are counted alone. */
        private int partOf(int open) {
            int part = open & -open;
            for (int round = 0; round < MOST_CELLS; round++) {
                int before = part;
                for (int r = 0; r < puzzle.rules; r++) {
                    part |= (puzzle.area[r] & part) != 0 ? puzzle.area[r] & open : 0;
                }
                if (part == before) {
                    return part;
                }
            }
            return part;
        }

        private int countPart(long standing, int part, int limit) {
            if (part == 0) {
                return 1;
            }
            int c = lowest(part);
            int total = 0;
            for (int symbol = 0; symbol < 4 && total < limit; symbol++) {
                if ((may(standing, c) >> symbol & 1) != 0) {
                    long then = only(standing, c, symbol);
                    if (puzzle.canMeet(then, 1 << c)) {
                        total += countPart(then, part & part - 1, limit - total);
                    }
                }
            }
            return total;
        }

        void list(int number) {
            if (number > MOST_TOLD) {
                out.put(NO_NUMBER);
                return;
            }
            most = number;
            listed = 0;
            listFrom(puzzle.first(), 0);
            out.put(listed > most ? "more" : "all");
        }

        private void listFrom(long standing, int c) {
            if (c >= puzzle.cells) {
                listed++;
                if (listed <= most) {
                    writeFilling(standing);
                    out.put(' ');
                }
                return;
            }
            for (int symbol = 0; symbol < 4 && listed <= most; symbol++) {
                if ((may(standing, c) >> symbol & 1) != 0) {
                    long then = only(standing, c, symbol);
                    if (puzzle.canMeet(then, 1 << c)) {
                        listFrom(then, c + 1);
                    }
                }
            }
        }

        private void writeFilling(long filling) {
            for (int c = 0; c < puzzle.cells; c++) {
                out.number(lowest(may(filling, c)));
            }
        }

        void writePick(int number) {
            long first = puzzle.first();
            if (number >= count(first, ALL_ANSWERS)) {
                out.put(NONE);
            } else {
                writeFilling(pick(first, number));
            }
        }

        /** The answer of that number, of a standing that has so many. */
        long pick(long from, int number) {
            long standing = from;
            int left = number;
            for (int c = 0; c < puzzle.cells; c++) {
                int symbols = may(standing, c);
                for (int symbol = 0; symbol < 4; symbol++) {
                    if ((symbols >> symbol & 1) != 0) {
                        long then = only(standing, c, symbol);
                        int many = count(then, ALL_ANSWERS);
                        if (left < many) {
                            standing = then;
                            break;
                        }
                        left -= many;
                    }
                }
            }
            return standing;
        }

        /** All symbols of a cell, as a standing has them. */
        private long all(int c) {
            return (1L << puzzle.symbols) - 1 << 4 * c;
        }

        void clash() {
            long standing = puzzle.first();
            if (count(standing, 1) > 0) {
                out.put(NONE);
                return;
            }
            out.put("clash");
            for (int c = 0; c < puzzle.cells; c++) {
                if (puzzle.given[c] >= 0) {
                    if (count(standing | all(c), 1) == 0) {
                        standing |= all(c);
                    } else {
                        out.put(' ');
                        out.number(c);
                    }
                }
            }
        }

        boolean least() {
            long standing = puzzle.first();
            if (count(standing, 2) != 1) {
                out.put(NOT_ONE);
                return false;
            }
            for (int c = 0; c < puzzle.cells; c++) {
                if (puzzle.given[c] >= 0 && count(standing | all(c), 2) == 1) {
                    standing |= all(c);
                    puzzle.given[c] = -1;
                }
            }
            out.put("least ");
            out.number(puzzle.givens());
            return true;
        }

        private int draw(int below) {
            drawn = drawn * 6364136223846793005L + 1442695040888963407L;
            return (int) ((drawn >>> 33) % Math.max(below, 1));
        }

        boolean make(int seed, int mirrored) {
            if (mirrored > 1) {
                out.put("no kind");
                return false;
            }
            long standing = puzzle.free();
            int many = count(standing, ALL_ANSWERS);
            if (many == 0) {
                out.put(NONE);
                return false;
            }
            drawn = seed;
            standing = pick(standing, draw(many));
            for (int c = 0; c < puzzle.cells; c++) {
                puzzle.given[c] = lowest(may(standing, c));
                row[c] = c;
            }
            shuffleRow();
            for (int i = 0; i < puzzle.cells; i++) {
                int c = row[i];
                int other = mirrored == 1 ? puzzle.cells - 1 - c : c;
                if (puzzle.given[c] >= 0 && count(standing | all(c) | all(other), 2) == 1) {
                    standing |= all(c) | all(other);
                    puzzle.given[c] = -1;
                    puzzle.given[other] = -1;
                }
            }
            out.put("made ");
            out.number(puzzle.givens());
            return true;
        }

        private void shuffleRow() {
            for (int i = puzzle.cells - 1; i >= 1; i--) {
                int j = draw(i + 1);
                int c = row[i];
                row[i] = row[j];
                row[j] = c;
            }
        }
    }

    /** Goes on, over the tree and by steps, and writes what it does as lines of a proof. */
    private static final class Reasons {
        private final Puzzle puzzle;
        private final Out out;
        private boolean writes = false;
        /** What was found last: a symbol to be taken from a cell by a rule, or by it and a second one. */
        private int rule = 0;
        private int second = 0;
        private int cell = 0;
        private int symbol = 0;
        private int taken = 0;
        private int takenFirst = 0;
        private int nodes = 0;
        private int deepest = 0;
        private boolean isLong = false;
        private final int[] chosenCell = new int[MOST_CELLS + 1];
        private final int[] chosenSymbol = new int[MOST_CELLS + 1];

        Reasons(Puzzle puzzle, Out out) {
            this.puzzle = puzzle;
            this.out = out;
        }

        private void start(boolean writing) {
            writes = writing;
            nodes = 0;
            deepest = 0;
            takenFirst = 0;
            isLong = false;
        }

        /** Finds what one would take first, going on. */
        private boolean findOne(long standing) {
            for (int r = 0; r < puzzle.rules; r++) {
                int supported = puzzle.supports(r, standing);
                for (int i = 0; i < puzzle.size[r]; i++) {
                    int c = puzzle.cell[4 * r + i];
                    int outs = may(standing, c) & ~(supported >> 4 * i);
                    if (outs != 0) {
                        rule = r;
                        cell = c;
                        symbol = lowest(outs);
                        return true;
                    }
                }
            }
            return false;
        }

        /** At most 36 symbols can be taken. */
        private long goOn(long from) {
            long standing = from;
            taken = 0;
            while (taken < 4 * MOST_CELLS && findOne(standing)) {
                if (writes) {
                    writeReason(standing, false);
                }
                standing = without(standing, cell, symbol);
                taken++;
                if (may(standing, cell) == 0) {
                    return standing;
                }
            }
            return standing;
        }

        /** The line of what was found, by a rule or by two: what is taken, and what other cells may not have. */
        private void writeReason(long standing, boolean byTwo) {
            int all = (1 << puzzle.symbols) - 1;
            int size = puzzle.size[rule];
            int both = byTwo ? size + puzzle.size[second] : size;
            out.put(byTwo ? 'w' : 'r');
            out.number(rule);
            if (byTwo) {
                out.put(' ');
                out.number(second);
            }
            out.literals('-', cell, 1 << symbol);
            for (int i = 0; i < both; i++) {
                int c = i < size ? puzzle.cell[4 * rule + i] : puzzle.cell[4 * second + i - size];
                if (c != cell && (i < size || (puzzle.area[rule] >> c & 1) == 0)) {
                    out.literals('+', c, all & ~may(standing, c));
                }
            }
            out.put(';');
        }

        private void writeGivens() {
            for (int c = 0; c < puzzle.cells; c++) {
                if (puzzle.given[c] >= 0) {
                    out.put('g');
                    out.number(c);
                    out.literals('+', c, 1 << puzzle.given[c]);
                    out.put(';');
                }
            }
        }

        private void writeLeaf(long filling) {
            out.put('b');
            for (int c = 0; c < puzzle.cells; c++) {
                out.literals('-', c, may(filling, c));
            }
            out.put(';');
        }

        private void writeChoices(int choices) {
            out.put('u');
            for (int i = 0; i < choices; i++) {
                out.literals('-', chosenCell[i], 1 << chosenSymbol[i]);
            }
            out.put(';');
        }

        /** A node of the tree and all behind it; there are at most as many choices as cells. */
        private void visit(long standing, int choices) {
            nodes++;
            if (nodes > MOST_NODES || choices > MOST_CELLS) {
                isLong = true;
                return;
            }
            deepest = Math.max(deepest, choices);
            long left = goOn(standing);
            if (choices == 0) {
                takenFirst = taken;
            }
            if (!isBroken(left) && !isFilling(left)) {
                int c = cellOfChoice(left);
                for (int s = 0; s < 4 && !isLong; s++) {
                    if ((may(left, c) >> s & 1) != 0) {
                        chosenCell[choices] = c;
                        chosenSymbol[choices] = s;
                        visit(only(left, c, s), choices + 1);
                    }
                }
            } else if (writes && !isBroken(left)) {
                writeLeaf(left);
            }
            if (writes) {
                writeChoices(choices);
                isLong = isLong || out.length > MOST_PROOF;
            }
        }

        private int cellOfChoice(long standing) {
            int best = 0;
            int fewest = 5;
            for (int c = 0; c < puzzle.cells; c++) {
                int many = Integer.bitCount(may(standing, c));
                if (many > 1 && many < fewest) {
                    best = c;
                    fewest = many;
                }
            }
            return best;
        }

        void prove() {
            start(true);
            writeGivens();
            visit(puzzle.first(), 0);
            refuseLong();
        }

        private void refuseLong() {
            if (isLong || out.length > MOST_PROOF) {
                out.clear();
                out.put(LONG);
            }
        }

        void grade() {
            start(false);
            visit(puzzle.first(), 0);
            if (isLong) {
                out.put(LONG);
            } else {
                writeNumbers(takenFirst, nodes, deepest);
            }
        }

        private void writeNumbers(int a, int b, int c) {
            out.number(a);
            out.put(' ');
            out.number(b);
            out.put(' ');
            out.number(c);
        }

        void hint(long standing) {
            for (int r = 0; r < puzzle.rules; r++) {
                int supported = puzzle.supports(r, standing);
                for (int i = 0; i < puzzle.size[r]; i++) {
                    int c = puzzle.cell[4 * r + i];
                    int left = supported >> 4 * i & 15;
                    if (left == 0) {
                        out.put("can't");
                        return;
                    }
                    if (Integer.bitCount(left) == 1 && left != may(standing, c)) {
                        out.put("hint ");
                        writeNumbers(c, lowest(left), r);
                        return;
                    }
                }
            }
            out.put(NONE);
        }

        /** The kind of the first step (1 ONE, 2 TWO, 3 TRY; 0 when there is none), which is then what was found. */
        private int findStep(long standing) {
            if (findOne(standing)) {
                return 1;
            }
            if (findTwo(standing)) {
                return 2;
            }
            boolean writing = writes;
            writes = false;
            int kind = 0;
            for (int i = 0; i < 4 * puzzle.cells && kind == 0; i++) {
                int c = i >> 2;
                int s = i & 3;
                int symbols = may(standing, c);
                if ((symbols >> s & 1) != 0 && symbols != 1 << s && isBroken(goOn(only(standing, c, s)))) {
                    cell = c;
                    symbol = s;
                    kind = 3;
                }
            }
            writes = writing;
            return kind;
        }

        private boolean findTwo(long standing) {
            for (int r = 0; r < puzzle.rules; r++) {
                for (int q = r + 1; q < puzzle.rules; q++) {
                    int common = puzzle.area[r] & puzzle.area[q];
                    if (common != 0 && Integer.bitCount(puzzle.area[r] | puzzle.area[q]) <= 6) {
                        long outs = standing & ~puzzle.jointly(r, q, standing, common);
                        if (findAmong(outs, r) || findAmong(outs, q)) {
                            rule = r;
                            second = q;
                            return true;
                        }
                    }
                }
            }
            return false;
        }

        /** Finds the first of some symbols at a rule's cells. */
        private boolean findAmong(long outs, int r) {
            for (int i = 0; i < puzzle.size[r]; i++) {
                int c = puzzle.cell[4 * r + i];
                if (may(outs, c) != 0) {
                    cell = c;
                    symbol = lowest(may(outs, c));
                    return true;
                }
            }
            return false;
        }

        void step(long standing) {
            start(false);
            int kind = findStep(standing);
            if (kind == 0) {
                out.put(isFilling(standing) ? "solved" : "stuck");
                return;
            }
            out.put(kind == 1 ? "one " : kind == 2 ? "two " : "try ");
            out.number(cell);
            out.put(' ');
            out.number(symbol);
            if (kind < 3) {
                out.put(' ');
                out.number(rule);
            }
            if (kind == 2) {
                out.put(' ');
                out.number(second);
            }
        }

        void solve(long from) {
            start(false);
            long standing = from;
            int ones = 0;
            int twos = 0;
            int tries = 0;
            int kind = findStep(standing);
            for (int i = 0; i < 4 * MOST_CELLS && kind != 0; i++) {
                ones += kind == 1 ? 1 : 0;
                twos += kind == 2 ? 1 : 0;
                tries += kind == 3 ? 1 : 0;
                standing = without(standing, cell, symbol);
                kind = isBroken(standing) ? 0 : findStep(standing);
            }
            out.put(isBroken(standing) ? "broken " : isFilling(standing) ? "solved " : "stuck ");
            writeNumbers(ones, twos, tries);
        }

        void teach() {
            start(true);
            writeGivens();
            long standing = puzzle.first();
            int kind = findStep(standing);
            for (int i = 0; i < 4 * MOST_CELLS && kind != 0; i++) {
                int c = cell;
                int s = symbol;
                writeStep(standing, kind);
                standing = without(standing, c, s);
                kind = isBroken(standing) || out.length > MOST_PROOF ? 0 : findStep(standing);
            }
            if (isBroken(standing)) {
                writeChoices(0);
            } else if (isFilling(standing)) {
                writeLeaf(standing);
                writeChoices(0);
            }
            refuseLong();
            if (out.length == 0) {
                out.put('.');
            }
        }

        private void writeStep(long standing, int kind) {
            if (kind < 3) {
                writeReason(standing, kind == 2);
            } else {
                chosenCell[0] = cell;
                chosenSymbol[0] = symbol;
                goOn(only(standing, cell, symbol));
                writeChoices(1);
            }
        }
    }

    /** Reads a proof and tells whether its lines are right. */
    private static final class Checker {
        private static final int MOST_LINES = 1600;
        private static final int GIVEN = 0;
        private static final int BY_RULE = 1;
        private static final int BY_TWO = 2;
        private static final int BY_UNITS = 3;
        private static final int BY_ANSWER = 4;
        private static final int FLAWED = 5;
        private int lines = 0;
        private final int[] kind = new int[MOST_LINES];
        private final int[] first = new int[MOST_LINES];
        private final int[] second = new int[MOST_LINES];
        /** The literals with + and those with -, as the bits that standings have. */
        private final long[] plus = new long[MOST_LINES];
        private final long[] minus = new long[MOST_LINES];
        private final Puzzle puzzle;
        private final Out out;
        private long free = 0;

        Checker(Puzzle puzzle, Out out) {
            this.puzzle = puzzle;
            this.out = out;
        }

        void read(Scan scan) {
            lines = 0;
            boolean more = true;
            for (int i = 0; i < MOST_LINES && more && !scan.wrong; i++) {
                readLine(scan, i);
                lines++;
                more = scan.place < scan.end;
            }
        }

        private void readLine(Scan scan, int i) {
            kind[i] = scan.choose("g r w u b");
            first[i] = 0;
            second[i] = 0;
            plus[i] = 0;
            minus[i] = 0;
            if (kind[i] == GIVEN || kind[i] == BY_RULE || kind[i] == BY_TWO) {
                first[i] = scan.number(3);
            }
            if (kind[i] == BY_TWO) {
                scan.take(' ');
                second[i] = scan.number(3);
            }
            for (int j = scan.place; j <= scan.end && scan.ahead(' '); j++) {
                readLiteral(scan, i);
            }
            scan.take(';');
        }

        private void readLiteral(Scan scan, int i) {
            scan.take(' ');
            int sign = scan.choose("+ -");
            int cell = scan.number(3);
            scan.take('.');
            int symbol = scan.number(3);
            if (cell >= puzzle.cells || symbol >= puzzle.symbols) {
                kind[i] = FLAWED;
                return;
            }
            long bit = 1L << 4 * cell + symbol;
            if (((sign == 0 ? plus[i] : minus[i]) & bit) != 0) {
                kind[i] = FLAWED;
            }
            if (sign == 0) {
                plus[i] |= bit;
            } else {
                minus[i] |= bit;
            }
        }

        void verdict() {
            free = puzzle.free();
            for (int i = 0; i < lines; i++) {
                if (!isRight(i)) {
                    out.put("line ");
                    out.number(i);
                    return;
                }
            }
            int last = Math.max(lines - 1, 0);
            if (kind[last] != BY_UNITS || (plus[last] | minus[last]) != 0) {
                out.put("open");
                return;
            }
            out.put("proof ");
            out.number(fillings());
        }

        private boolean isRight(int i) {
            switch (kind[i]) {
                case GIVEN: return isGiven(i);
                case BY_RULE: return first[i] < puzzle.rules && puzzle.supports(first[i], denied(i)) == 0;
                case BY_TWO: return isByTwo(i);
                case BY_UNITS: return isByUnits(i);
                case BY_ANSWER: return isByAnswer(i);
                default: return false;
            }
        }

        private boolean isGiven(int i) {
            int c = first[i];
            return c < puzzle.cells && puzzle.given[c] >= 0 && (plus[i] >>> 4 * c + puzzle.given[c] & 1) != 0;
        }

        private boolean isByTwo(int i) {
            int r = first[i];
            int q = second[i];
            if (r >= q || q >= puzzle.rules) {
                return false;
            }
            int common = puzzle.area[r] & puzzle.area[q];
            return Integer.bitCount(puzzle.area[r] | puzzle.area[q]) <= 6
                && puzzle.jointly(r, q, denied(i), common) == 0;
        }

        /** The standing in which no literal of the line is so. */
        private long denied(int i) {
            long standing = free & ~plus[i];
            for (int c = 0; c < puzzle.cells; c++) {
                int named = may(minus[i], c);
                if (named != 0) {
                    long kept = Integer.bitCount(named) == 1 ? (long) named << 4 * c : 0;
                    standing &= ~(15L << 4 * c) | kept;
                }
            }
            return standing;
        }

        /** Each round but the last one takes a symbol at least, so that there are fewer than 40. */
        private boolean isByUnits(int i) {
            long standing = denied(i);
            if (isBroken(standing)) {
                return true;
            }
            long alone = settled(standing);
            for (int round = 0; round < 40; round++) {
                long before = standing;
                for (int j = 0; j < i; j++) {
                    if ((plus[j] & alone | minus[j] & ~standing) == 0) {
                        long openPlus = plus[j] & standing;
                        long openMinus = minus[j] & ~alone;
                        int open = Long.bitCount(openPlus) + Long.bitCount(openMinus);
                        if (open == 0) {
                            return true;
                        }
                        if (open == 1) {
                            standing = openPlus != 0 ? made(standing, openPlus) : standing & ~openMinus;
                            alone = settled(standing);
                        }
                    }
                }
                if (standing == before) {
                    return false;
                }
            }
            return false;
        }

        /** The standing in which the cell of a bit may have its symbol alone. */
        private long made(long standing, long bit) {
            int cell = Long.bitCount(bit - 1) >> 2;
            return standing & ~(15L << 4 * cell) | bit;
        }

        private boolean isByAnswer(int i) {
            if (plus[i] != 0) {
                return false;
            }
            for (int c = 0; c < puzzle.cells; c++) {
                if (Integer.bitCount(may(minus[i], c)) != 1) {
                    return false;
                }
            }
            return puzzle.isAnswer(denied(i));
        }

        private int fillings() {
            int many = 0;
            for (int i = 0; i < lines; i++) {
                many += kind[i] == BY_ANSWER && isFirstTold(i) ? 1 : 0;
            }
            return many;
        }

        private boolean isFirstTold(int i) {
            for (int j = 0; j < i; j++) {
                if (kind[j] == BY_ANSWER && minus[j] == minus[i]) {
                    return false;
                }
            }
            return true;
        }
    }

    /** The form of a puzzle: rules as keys that are ordered as their texts are, and givens as a number. */
    private static final class Form {
        /** Above what any givens are as a number. */
        private static final long NO_FORM = 1L << 40;
        private int width = 0;
        private int height = 0;
        private int symbols = 0;
        private int rules = 0;
        private final int[] keys = new int[MOST_RULES];
        private long givens = 0;
        private int trials = 0;
        private final int[] trial = new int[MOST_RULES];
        private final int[] becomes = new int[4];
        private final int[] cells = new int[4];

        private static int maps(Puzzle puzzle) {
            return puzzle.width == puzzle.height ? 8 : 4;
        }

        private static int renamings(Puzzle puzzle) {
            for (int r = 0; r < puzzle.rules; r++) {
                int kind = puzzle.kind[r];
                if (kind != UNLIKE && kind != ALIKE && kind != COUNT) {
                    return 1;
                }
            }
            int many = 1;
            for (int i = 2; i <= puzzle.symbols; i++) {
                many *= i;
            }
            return many;
        }

        /** Finds what each symbol becomes by the renaming of that number. */
        private void rename(int number, int many) {
            int free = 15;
            int left = number;
            int ways = 1;
            for (int i = 2; i < many; i++) {
                ways *= i;
            }
            for (int i = 0; i < many && i < becomes.length; i++) {
                int skip = left / Math.max(ways, 1);
                left -= skip * ways;
                ways /= Math.max(many - 1 - i, 1);
                int rest = free;
                for (int j = 0; j < skip && j < 4; j++) {
                    rest &= rest - 1;
                }
                becomes[i] = lowest(rest) & 3;
                free &= ~(1 << becomes[i]);
            }
        }

        private static int mapped(Puzzle puzzle, int map, int cell) {
            if (cell >= puzzle.cells) {
                return cell;
            }
            int width = Math.max(puzzle.width, 1);
            int x = cell % width;
            int y = cell / width;
            x = (map & 1) != 0 ? width - 1 - x : x;
            y = (map & 2) != 0 ? puzzle.height - 1 - y : y;
            return (map & 4) != 0 ? y + width * x : x + width * y;
        }

        void vary(Puzzle from, int number, Puzzle to) {
            int maps = Math.max(maps(from), 1);
            int renamings = Math.max(renamings(from), 1);
            int map = number % maps;
            rename(number / maps % renamings, from.symbols);
            to.renew(from.width, from.height, from.symbols);
            for (int r = 0; r < from.rules; r++) {
                for (int i = 0; i < 4; i++) {
                    cells[i] = mapped(from, map, from.cell[4 * r + i]);
                }
                to.addRule(from.kind[r], from.number[r], cells, from.size[r]);
            }
            for (int c = 0; c < from.cells; c++) {
                if (from.given[c] >= 0) {
                    to.give(mapped(from, map, c), becomes[from.given[c] & 3]);
                }
            }
        }

        void take(Puzzle puzzle) {
            width = puzzle.width;
            height = puzzle.height;
            symbols = puzzle.symbols;
            int renamings = renamings(puzzle);
            for (int map = 0; map < maps(puzzle); map++) {
                orderRules(puzzle, map);
                int order = map == 0 ? -1 : compareTrial();
                if (order < 0) {
                    System.arraycopy(trial, 0, keys, 0, MOST_RULES);
                    rules = trials;
                    givens = NO_FORM;
                }
                for (int i = 0; i < renamings && order <= 0; i++) {
                    rename(i, symbols);
                    givens = Math.min(givens, givensOf(puzzle, map));
                }
            }
        }

        /** Fills the trial with the keys of the rules, mapped, rising, each one once. */
        private void orderRules(Puzzle puzzle, int map) {
            trials = 0;
            for (int r = 0; r < puzzle.rules; r++) {
                int key = keyOf(puzzle, map, r);
                int at = 0;
                while (at < trials && trial[at] < key) {
                    at++;
                }
                if (at == trials || trial[at] != key) {
                    for (int i = trials; i > at; i--) {
                        trial[i] = trial[i - 1];
                    }
                    trial[at] = key;
                    trials++;
                }
            }
        }

        /** From the highest bits on: the kind, the number's digits, four cells (each one more, 0 for none). */
        private int keyOf(Puzzle puzzle, int map, int r) {
            int kind = puzzle.kind[r];
            int number = puzzle.number[r];
            int digits = number < 10 ? number << 4 : number / 10 << 4 | number % 10 + 1;
            int set = 0;
            int ordered = 0;
            int size = puzzle.size[r];
            for (int i = 0; i < size; i++) {
                int c = mapped(puzzle, map, puzzle.cell[4 * r + i]);
                if (kind == RISE || kind == APART || kind == SEEN || kind == COUNT && i == 0) {
                    ordered = ordered << 4 | c + 1;
                } else {
                    set |= 1 << c;
                }
            }
            for (int c = 0; c < MOST_CELLS; c++) {
                ordered = (set >> c & 1) != 0 ? ordered << 4 | c + 1 : ordered;
            }
            return kind << 24 | digits << 16 | ordered << 16 - 4 * size;
        }

        /**
         * As the texts of the whole puzzles are ordered: there ";" or nothing follows a rule, and ";" is above
         * the blank ahead of a further cell. (Nothing follows only where all texts have one length.)
         */
        private int compareTrial() {
            for (int i = 0; i < trials && i < rules; i++) {
                if (trial[i] != keys[i]) {
                    return Integer.compare(closed(trial[i]), closed(keys[i]));
                }
            }
            return Integer.compare(trials, rules);
        }

        private static int closed(int key) {
            int closed = key;
            for (int shift = 0; shift < 16; shift += 4) {
                closed |= (key >> shift & 15) == 0 ? 15 << shift : 0;
            }
            return closed;
        }

        /** Four bits a cell, the first one highest, 15 without a given: texts with a given there are less. */
        private long givensOf(Puzzle puzzle, int map) {
            long all = 0xfffffffffL;
            for (int c = 0; c < puzzle.cells; c++) {
                if (puzzle.given[c] >= 0) {
                    int shift = 32 - 4 * mapped(puzzle, map, c);
                    all = all & ~(15L << shift) | (long) becomes[puzzle.given[c] & 3] << shift;
                }
            }
            return all;
        }

        boolean same(Form other) {
            if (width != other.width || height != other.height || symbols != other.symbols
                || rules != other.rules || givens != other.givens) {
                return false;
            }
            for (int i = 0; i < rules; i++) {
                if (keys[i] != other.keys[i]) {
                    return false;
                }
            }
            return true;
        }

        /** Makes a puzzle the one whose text is the form. */
        void restore(Puzzle to) {
            to.renew(width, height, symbols);
            for (int i = 0; i < rules; i++) {
                int digits = keys[i] >> 16 & 255;
                int number = (digits & 15) == 0 ? digits >> 4 : (digits >> 4) * 10 + (digits & 15) - 1;
                int size = 0;
                for (int j = 0; j < 4; j++) {
                    int cell = keys[i] >> 12 - 4 * j & 15;
                    cells[j] = cell - 1;
                    size += cell > 0 ? 1 : 0;
                }
                to.addRule(keys[i] >> 24, number, cells, size);
            }
            for (int c = 0; c < to.cells; c++) {
                int symbol = (int) (givens >>> 32 - 4 * c) & 15;
                if (symbol < symbols) {
                    to.give(c, symbol);
                }
            }
        }
    }

    /** Covers of the cells by rules, and colours that show that there are none. */
    private static final class Covers {
        private final Puzzle puzzle;
        private final Out out;
        private int most = 0;
        private int found = 0;
        private final int[] chosen = new int[MOST_CELLS + 1];
        private final int[] colour = new int[MOST_CELLS];

        Covers(Puzzle puzzle, Out out) {
            this.puzzle = puzzle;
            this.out = out;
        }

        void list(int number) {
            if (number > MOST_TOLD) {
                out.put(NO_NUMBER);
                return;
            }
            most = number;
            found = 0;
            cover(0, (1 << puzzle.cells) - 1, 0);
            out.put(found > most ? "more" : "all");
        }

        private void cover(int from, int left, int depth) {
            if (left == 0 || depth >= chosen.length) {
                found++;
                if (found <= most) {
                    writeCover(depth);
                }
                return;
            }
            for (int r = from; r < puzzle.rules && found <= most; r++) {
                if ((puzzle.area[r] & ~left) == 0) {
                    chosen[depth] = r;
                    cover(r + 1, left & ~puzzle.area[r], depth + 1);
                }
            }
        }

        private void writeCover(int depth) {
            for (int i = 0; i < depth && i < chosen.length; i++) {
                if (i > 0) {
                    out.put('+');
                }
                out.number(chosen[i]);
            }
            out.put(' ');
        }

        void barred() {
            for (int colours = 2; colours <= 3; colours++) {
                if (paint(0, colours, 0)) {
                    out.put("barred ");
                    out.number(colours);
                    out.put(' ');
                    for (int c = 0; c < puzzle.cells; c++) {
                        out.number(colour[c]);
                    }
                    return;
                }
            }
            out.put("open");
        }

        private boolean paint(int c, int colours, int total) {
            if (c >= puzzle.cells || c >= MOST_CELLS) {
                return !isMultiple(total, colours);
            }
            for (int i = 0; i < colours; i++) {
                colour[c] = i;
                if (addUp(c, colours) && paint(c + 1, colours, total + i)) {
                    return true;
                }
            }
            return false;
        }

        /** Whether the colours do in each rule whose last cell to be painted is this one. */
        private boolean addUp(int c, int colours) {
            for (int r = 0; r < puzzle.rules; r++) {
                if (puzzle.area[r] >> c == 1) {
                    int sum = 0;
                    for (int i = 0; i < puzzle.size[r]; i++) {
                        sum += colour[puzzle.cell[4 * r + i]];
                    }
                    if (!isMultiple(sum, colours)) {
                        return false;
                    }
                }
            }
            return true;
        }

        private static boolean isMultiple(int sum, int colours) {
            return sum % Math.max(colours, 1) == 0;
        }
    }

    /** What three persons enter and mark. */
    private static final class Play {
        private static final int PERSONS = 3;
        private static final int MOST_STEPS = 100;
        int present = 0;
        /** The entered symbol of each person's cells, or -1. */
        private final int[] entry = new int[PERSONS * MOST_CELLS];
        private final int[] marked = new int[PERSONS * MOST_CELLS];
        private final int[] steps = new int[PERSONS];
        /** The present step back of each person, or -1 at the beginning. */
        private final int[] at = new int[PERSONS];
        private final int[] behind = new int[PERSONS * MOST_STEPS];
        private final int[] cell = new int[PERSONS * MOST_STEPS];
        private final int[] before = new int[PERSONS * MOST_STEPS];
        private final int[] after = new int[PERSONS * MOST_STEPS];

        Play() {
            for (int i = 0; i < PERSONS * MOST_CELLS; i++) {
                entry[i] = -1;
            }
            for (int i = 0; i < PERSONS; i++) {
                at[i] = -1;
            }
        }

        void begin() {
            for (int i = 0; i < PERSONS * MOST_CELLS; i++) {
                entry[i] = -1;
                marked[i] = 0;
            }
            for (int i = 0; i < PERSONS; i++) {
                steps[i] = 0;
                at[i] = -1;
            }
        }

        int stepsBack() {
            return steps[present];
        }

        String enter(int person) {
            if (person >= PERSONS) {
                return NO_PERSON;
            }
            present = person;
            return OK;
        }

        /** What refuses an entry or a mark of a symbol (-1: of none) at a cell; empty when nothing does. */
        private String refusal(Puzzle puzzle, int c, int symbol) {
            if (c >= puzzle.cells) {
                return NO_CELL;
            }
            if (puzzle.given[c] >= 0) {
                return "given";
            }
            return symbol >= puzzle.symbols ? NO_SYMBOL : "";
        }

        String put(Puzzle puzzle, int c, int symbol) {
            String refused = refusal(puzzle, c, symbol);
            if (!refused.isEmpty()) {
                return refused;
            }
            int place = MOST_CELLS * present + c;
            if (entry[place] == symbol) {
                return "same";
            }
            if (steps[present] >= MOST_STEPS) {
                return NO_ROOM;
            }
            int step = MOST_STEPS * present + steps[present];
            behind[step] = at[present];
            cell[step] = c;
            before[step] = entry[place];
            after[step] = symbol;
            at[present] = steps[present];
            steps[present]++;
            entry[place] = symbol;
            return OK;
        }

        String undo() {
            if (at[present] < 0) {
                return NO_STEP;
            }
            int step = MOST_STEPS * present + at[present];
            entry[MOST_CELLS * present + cell[step]] = before[step];
            at[present] = behind[step];
            return OK;
        }

        String redo(int number) {
            int left = number;
            for (int i = 0; i < steps[present]; i++) {
                int step = MOST_STEPS * present + i;
                if (behind[step] == at[present]) {
                    if (left == 0) {
                        entry[MOST_CELLS * present + cell[step]] = after[step];
                        at[present] = i;
                        return OK;
                    }
                    left--;
                }
            }
            return NO_STEP;
        }

        void write(Puzzle puzzle, Out out) {
            for (int c = 0; c < puzzle.cells; c++) {
                int symbol = puzzle.given[c] >= 0 ? puzzle.given[c] : entry[MOST_CELLS * present + c];
                if (symbol < 0) {
                    out.put('.');
                } else {
                    out.number(symbol);
                }
            }
        }

        String mark(Puzzle puzzle, int c, int symbol) {
            String refused = refusal(puzzle, c, symbol);
            if (!refused.isEmpty()) {
                return refused;
            }
            int place = MOST_CELLS * present + c;
            marked[place] ^= 1 << symbol;
            return (marked[place] >> symbol & 1) != 0 ? "on" : "off";
        }

        void writeMarks(Puzzle puzzle, int c, Out out) {
            if (c >= puzzle.cells) {
                out.put(NO_CELL);
                return;
            }
            for (int symbol = 0; symbol < 4; symbol++) {
                if ((marked[MOST_CELLS * present + c] >> symbol & 1) != 0) {
                    out.number(symbol);
                }
            }
            out.put('.');
        }

        long standing(Puzzle puzzle) {
            long standing = puzzle.first();
            for (int c = 0; c < puzzle.cells; c++) {
                int symbol = entry[MOST_CELLS * present + c];
                if (symbol >= 0) {
                    standing = only(standing, c, symbol);
                }
            }
            return standing;
        }

        int wrongEntries(long right) {
            int many = 0;
            for (int c = 0; c < MOST_CELLS; c++) {
                int symbol = entry[MOST_CELLS * present + c];
                many += symbol >= 0 && (may(right, c) >> symbol & 1) == 0 ? 1 : 0;
            }
            return many;
        }
    }

    /** Items, and how three persons did at them. */
    private static final class Contest {
        private static final int MOST_ITEMS = 6;
        int items = 0;
        private final char[] names = new char[8 * MOST_ITEMS];
        private final int[] nameLength = new int[MOST_ITEMS];
        private final Puzzle[] puzzles = new Puzzle[MOST_ITEMS];
        private final int[] points = new int[MOST_ITEMS];
        /** Of each person and item: how many times it was wrong, and when it was right, or -1. */
        private final int[] wrong = new int[Play.PERSONS * MOST_ITEMS];
        private final int[] rightAt = new int[Play.PERSONS * MOST_ITEMS];
        private final int[] sum = new int[Play.PERSONS];
        private final int[] time = new int[Play.PERSONS];

        Contest() {
            for (int i = 0; i < MOST_ITEMS; i++) {
                puzzles[i] = new Puzzle();
            }
        }

        /** The item whose name was read, or -1. */
        private int itemOf(Scan scan) {
            for (int i = 0; i < items; i++) {
                int alike = 0;
                while (alike < scan.nameLength && alike < nameLength[i]
                    && names[8 * i + alike] == scan.source[scan.nameFrom + alike]) {
                    alike++;
                }
                if (alike == scan.nameLength && alike == nameLength[i]) {
                    return i;
                }
            }
            return -1;
        }

        String add(Scan scan, int worth, Puzzle puzzle) {
            if (itemOf(scan) >= 0) {
                return "there";
            }
            if (items >= MOST_ITEMS) {
                return NO_ROOM;
            }
            System.arraycopy(scan.source, scan.nameFrom, names, 8 * items, scan.nameLength);
            nameLength[items] = scan.nameLength;
            puzzles[items].copy(puzzle);
            points[items] = worth;
            for (int person = 0; person < Play.PERSONS; person++) {
                wrong[MOST_ITEMS * person + items] = 0;
                rightAt[MOST_ITEMS * person + items] = -1;
            }
            items++;
            return OK;
        }

        String submit(Scan scan, int person, int when) {
            if (person >= Play.PERSONS) {
                return NO_PERSON;
            }
            int item = itemOf(scan);
            if (item < 0) {
                return "no item";
            }
            int place = MOST_ITEMS * person + item;
            if (rightAt[place] >= 0) {
                return "over";
            }
            Puzzle puzzle = puzzles[item];
            if (scan.digits != puzzle.cells) {
                return "no filling";
            }
            puzzle.learn();
            long filling = puzzle.free();
            for (int c = 0; c < puzzle.cells; c++) {
                int symbol = scan.source[scan.digitsFrom + c] - '0';
                if (symbol >= puzzle.symbols) {
                    return "no filling";
                }
                filling = only(filling, c, symbol);
            }
            if (!puzzle.isAnswer(filling)) {
                wrong[place]++;
                return "wrong";
            }
            rightAt[place] = when;
            return "right";
        }

        void writeTable(Out out) {
            for (int person = 0; person < Play.PERSONS; person++) {
                addUp(person);
            }
            int told = 0;
            for (int i = 0; i < Play.PERSONS; i++) {
                int best = -1;
                for (int person = 0; person < Play.PERSONS; person++) {
                    if ((told >> person & 1) == 0 && (best < 0 || isAhead(person, best))) {
                        best = person;
                    }
                }
                best = Math.max(best, 0);
                told |= 1 << best;
                out.number(best);
                out.put(' ');
                out.number(sum[best]);
                out.put(' ');
                out.number(time[best]);
                out.put(';');
            }
        }

        private void addUp(int person) {
            sum[person] = 0;
            time[person] = 0;
            for (int item = 0; item < items; item++) {
                int place = MOST_ITEMS * person + item;
                if (rightAt[place] >= 0) {
                    sum[person] += Math.max(points[item] - wrong[place], 0);
                    time[person] += rightAt[place] + 20 * wrong[place];
                }
            }
        }

        private boolean isAhead(int person, int other) {
            return sum[person] > sum[other] || sum[person] == sum[other] && time[person] < time[other];
        }
    }

    /** Pages that hold puzzles by names, two root pages in turn, and what was written last. */
    private static final class Book {
        private static final int PAGES = 32;
        private static final int PAGE = 32;
        private static final int FIRST_PAGE = 3;
        private static final int MOST_ENTRIES = 15;
        final char[] pages = new char[PAGES * PAGE];
        boolean isOpen = true;
        /** Where bytes were written for the latest entry kept or removed, and what had stood there. */
        private int written = 0;
        private final int[] writtenAt = new int[PAGES * PAGE];
        private final char[] stood = new char[PAGES * PAGE];
        private final Scan scan = new Scan();

        Book() {
            pages[0] = 1;
        }

        static boolean hasByte(int page, int i) {
            return page >= 0 && page < PAGES && i >= 0 && i < PAGE;
        }

        void spoil(int place, int mask) {
            pages[place] = (char) (pages[place] ^ mask);
            isOpen = false;
        }

        private int root() {
            return pages[0] == 2 ? 2 * PAGE : PAGE;
        }

        int entries() {
            return Math.min(pages[root()], MOST_ENTRIES);
        }

        private int chainOf(int entry) {
            return pages[root() + 1 + 2 * entry];
        }

        /** Where an entry's chain begins, or the last page for one that can't be. */
        private int placeOf(int entry) {
            return PAGE * Math.min(pages[root() + 1 + 2 * entry], PAGES - 1);
        }

        private int pagesOf(int entry) {
            return pages[root() + 2 + 2 * entry];
        }

        /** Reads an entry's puzzle; false when the entry can't be. */
        boolean read(int entry, Puzzle into) {
            int chain = chainOf(entry);
            int many = pagesOf(entry);
            if (chain < FIRST_PAGE || many < 1 || chain + many > PAGES) {
                return false;
            }
            int at = PAGE * chain;
            int name = pages[at];
            if (name < 1 || name > 8) {
                return false;
            }
            for (int i = 1; i <= name; i++) {
                if (!isLetter(pages[at + i])) {
                    return false;
                }
            }
            int from = at + name + 3;
            int to = from + pages[from - 2] + 256 * pages[from - 1];
            if (to > at + PAGE * many) {
                return false;
            }
            scan.start(pages, from, to);
            scan.text(into);
            return !scan.wrong && scan.place == to && scan.refused.isEmpty();
        }

        /** The first entry of a name, or -1. */
        int entryOf(char[] source, int from, int length) {
            for (int entry = 0; entry < entries(); entry++) {
                int at = placeOf(entry);
                int alike = 0;
                while (alike < length && pages[at + 1 + alike] == source[from + alike]) {
                    alike++;
                }
                if (alike == length && pages[at] == length) {
                    return entry;
                }
            }
            return -1;
        }

        void writeName(int entry, Out out) {
            int at = placeOf(entry);
            for (int i = 1; i <= pages[at] && i <= 8; i++) {
                out.put(pages[at + i]);
            }
            out.put(' ');
        }

        private void write(int place, int value) {
            if (written < writtenAt.length) {
                writtenAt[written] = place;
                stood[written] = pages[place];
                written++;
                pages[place] = (char) value;
            }
        }

        /** False when there is no room. */
        boolean keep(char[] source, int from, int length, Out text) {
            int old = entryOf(source, from, length);
            int need = (length + 3 + text.length + PAGE - 1) / PAGE;
            int chain = freePages(need);
            if (entries() - (old < 0 ? 0 : 1) >= MOST_ENTRIES || chain < 0) {
                return false;
            }
            written = 0;
            int at = PAGE * chain;
            write(at, length);
            for (int i = 0; i < length; i++) {
                write(at + 1 + i, source[from + i]);
            }
            write(at + length + 1, text.length & 255);
            write(at + length + 2, text.length >> 8);
            for (int i = length + 3; i < PAGE * need; i++) {
                write(at + i, i - length - 3 < text.length ? text.at[i - length - 3] : 0);
            }
            turn(old, chain, need);
            return true;
        }

        /** The first of so many free pages one behind the other, or -1. */
        private int freePages(int need) {
            int used = 0;
            for (int entry = 0; entry < entries(); entry++) {
                for (int i = 0; i < pagesOf(entry); i++) {
                    used |= 1 << chainOf(entry) + i;
                }
            }
            int run = 0;
            for (int page = FIRST_PAGE; page < PAGES; page++) {
                run = (used >> page & 1) == 0 ? run + 1 : 0;
                if (run == need) {
                    return page - need + 1;
                }
            }
            return -1;
        }

        /** Writes the other root page, without an old entry (-1: with all) and with a new chain of pages, if any. */
        private void turn(int old, int chain, int many) {
            int other = 3 - root() / PAGE;
            int base = PAGE * other;
            int before = entries();
            int after = before - (old < 0 ? 0 : 1) + (many > 0 ? 1 : 0);
            int sum = after;
            int at = base + 1;
            write(base, after);
            for (int entry = 0; entry < before; entry++) {
                if (entry != old) {
                    write(at, chainOf(entry));
                    write(at + 1, pagesOf(entry));
                    sum += chainOf(entry) + pagesOf(entry);
                    at += 2;
                }
            }
            if (many > 0) {
                write(at, chain);
                write(at + 1, many);
                sum += chain + many;
                at += 2;
            }
            for (int i = at; i < base + PAGE - 1; i++) {
                write(i, 0);
            }
            write(base + PAGE - 1, sum % 251);
            write(0, other);
        }

        /** False when there is none of that name. */
        boolean remove(char[] source, int from, int length) {
            int old = entryOf(source, from, length);
            if (old < 0) {
                return false;
            }
            written = 0;
            turn(old, 0, 0);
            return true;
        }

        boolean cut(int many) {
            if (!isOpen || written == 0 || written < many) {
                return false;
            }
            for (int i = Math.max(many, 0); i < written; i++) {
                pages[writtenAt[i]] = stood[i];
            }
            isOpen = false;
            return true;
        }

        /** False when the book is torn. */
        boolean mend(Puzzle spare) {
            isOpen = false;
            written = 0;
            if (pages[0] != 1 && pages[0] != 2 || pages[root()] > MOST_ENTRIES) {
                return false;
            }
            int sum = 0;
            for (int i = 0; i < PAGE - 1; i++) {
                sum += pages[root() + i];
            }
            if (sum % 251 != pages[root() + PAGE - 1]) {
                return false;
            }
            for (int entry = 0; entry < entries(); entry++) {
                if (!read(entry, spare)) {
                    return false;
                }
            }
            isOpen = true;
            return true;
        }
    }
}
