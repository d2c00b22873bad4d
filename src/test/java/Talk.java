import java.util.function.IntUnaryOperator;

/** How tests talk to a house: texts instead of numbers and bytes. */
final class Talk {
    private Talk() {
    }

    /** Five numbers that hold twenty bytes of a text from a place on, zeros behind its end. */
    static int[] numbers(String text, int from) {
        int[] five = new int[5];
        for (int i = 0; i < 20; i++) {
            int b = from + i < text.length() ? text.charAt(from + i) & 255 : 0;
            five[i / 4] |= b << 8 * (3 - i % 4);
        }
        return five;
    }

    static String read(int length, IntUnaryOperator byteOf) {
        StringBuilder b = new StringBuilder();
        for (int i = 0; i < length; i++) {
            b.append((char) byteOf.applyAsInt(i));
        }
        return b.toString();
    }

    /** Puts a request on the tape, which must be empty. */
    static void feed(PuzzleHouse house, String request) {
        for (int i = 0; i < request.length(); i += 20) {
            int[] five = numbers(request, i);
            house.feed(five[0], five[1], five[2], five[3], five[4]);
        }
    }

    static String say(PuzzleHouse house, String request) {
        feed(house, request);
        return read(house.ask(request.length()), house::answer);
    }

    static String checkAnswer(PuzzleHouse house) {
        return read(house.checkAnswer(), house::answer);
    }
}
