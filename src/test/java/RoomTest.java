import java.lang.management.ManagementFactory;

/** What a run makes must fit into one room, and no call may throw whatever it is told. */
public final class RoomTest extends Checks {
    private RoomTest() {
    }

    public static void main(String[] args) {
        room();
        wildCalls();
        end();
    }

    /** A new object and the dearest requests, 500 of them, against bytes made: 7.3 million elements are far more. */
    private static void room() {
        String[] dear = {"prove", "teach", "solve", "answers 100", "many", "make 7 1", "form", "vary 9", "find", "export", "mend", "keep a", "cover 100", "barred", "least"};
        int[][][] numbers = new int[dear.length][][];
        String puzzle = "load new 3 3 4;each row unlike;each column unlike;rule apart 1 0 4 8;rule seen 2 2 4 6;give 0 1";
        for (int i = 0; i < dear.length; i++) {
            numbers[i] = new int[][] {Talk.numbers(dear[i], 0)};
        }
        com.sun.management.ThreadMXBean bean = (com.sun.management.ThreadMXBean) ManagementFactory.getThreadMXBean();
        long id = Thread.currentThread().getId();
        long made = 0;
        for (int round = 0; round < 2; round++) {
            long before = bean.getThreadAllocatedBytes(id);
            PuzzleHouse house = new PuzzleHouse();
            for (int k = 0; k < 30; k++) {
                Talk.say(house, puzzle);
                for (int i = 0; i < dear.length; i++) {
                    int[] five = numbers[i][0];
                    house.feed(five[0], five[1], five[2], five[3], five[4]);
                    house.ask(dear[i].length());
                }
            }
            made = bean.getThreadAllocatedBytes(id) - before;
        }
        so(made < 1_000_000, "a run of 480 requests makes less than a million bytes: " + made);
    }

    /** Calls with all sorts of numbers, far beyond the 512th. */
    private static void wildCalls() {
        int[] wild = {0, 1, -1, 2, 3, 4, 31, 32, 33, 255, 256, 20, 3200, Integer.MAX_VALUE, Integer.MIN_VALUE};
        PuzzleHouse house = new PuzzleHouse();
        long seed = 1;
        for (int i = 0; i < 200_000; i++) {
            seed = seed * 6364136223846793005L + 1442695040888963407L;
            int kind = (int) (seed >>> 60);
            int a = wild[(int) ((seed >>> 40) % wild.length)];
            int b = wild[(int) ((seed >>> 30) % wild.length)];
            switch (kind) {
                case 0: case 1: case 2: house.feed((int) (seed >>> 3), a, b, (int) seed, -1); break;
                case 3: case 4: house.ask(a); break;
                case 5: house.checkAnswer(); break;
                case 6: house.answer(a); break;
                case 7: house.state(a); break;
                case 8: house.byteAt(a, b); break;
                case 9: house.poke(a, b, (int) (seed >>> 20) % 300); break;
                default:
                    house.ask(house.state(6));
                    Talk.say(house, new String[] {"mend", "keep a", "remove a", "cut 40", "export", "find", "list", "open a", "set a 1", "contest"}[(int) ((seed >>> 45) % 10)]);
                    break;
            }
        }
        so(true, "no call threw");
        PuzzleHouse full = new PuzzleHouse();
        Talk.say(full, "new 1 1 2");
        for (int i = 0; i < 3000; i++) {
            Talk.say(full, "put 0 " + i % 2);
            Talk.say(full, "keep x");
        }
        so(full.state(4) == 100, "no more than 100 steps back");
    }
}
