import java.util.Random;

/**
 * Any arguments in any state: no call may throw, and one that is refused, or that only looks, changes nothing. Two houses
 * get the same calls but for these, which one alone gets; what both answer must stay the same.
 */
public final class WildCallsTest {
    private static final int RUNS = 3000;
    /** Calls of a run that are kept to compare both houses at its end. */
    private static final int LAST_LOOKS = 150;
    private static final int[] EDGES = {0, 1, 2, 3, 4, 5, 11, 12, 119, 120, 121, 200, 201, 240, 250, 251, 255, 256,
        -1, -2, -250, Integer.MAX_VALUE, Integer.MIN_VALUE, Integer.MAX_VALUE - 1, 1 << 16};

    private final Random random;
    private final House wild;
    private final House calm;

    private WildCallsTest(int seed) {
        random = new Random(seed);
        int bearers = anything();
        int key = anything();
        wild = new House(bearers, key);
        calm = new House(bearers, key);
    }

    public static void main(String[] args) {
        int wrong = 0;
        for (int seed = 0; seed < RUNS && wrong < 5; seed++) {
            String problem = problemOf(new WildCallsTest(seed));
            if (problem != null) {
                wrong++;
                System.out.println("run " + seed + ": " + problem);
            }
        }
        System.out.println(wrong == 0 ? "no wild call did harm" : "wild calls did harm");
        if (wrong != 0) {
            System.exit(1);
        }
    }

    private static String problemOf(WildCallsTest test) {
        try {
            while (test.wild.callsLeft() > LAST_LOOKS) {
                int[] call = test.anyCall();
                if (!test.isSame(call)) {
                    return "the houses differ in call " + java.util.Arrays.toString(call);
                }
            }
            while (test.wild.callsLeft() > 0) {
                int[] look = test.tameLook();
                if (answer(test.wild, look) != answer(test.calm, look)) {
                    return "the houses differ in look " + java.util.Arrays.toString(look);
                }
            }
            return null;
        } catch (RuntimeException e) {
            return "it threw " + e;
        }
    }

    /** What both answer; the calm house doesn't get looks, nor what the wild one refuses. */
    private boolean isSame(int[] call) {
        int got = answer(wild, call);
        boolean mayChange = call[0] < 6 && got != BearerHouse.NONE;
        return !mayChange || answer(calm, call) == got;
    }

    private int anything() {
        return random.nextInt(5) == 0 ? random.nextInt() : EDGES[random.nextInt(EDGES.length)];
    }

    /** Mostly a number that is fine, so that there are states to be wild in. */
    private int tame(int bound) {
        return random.nextInt(8) == 0 ? anything() : random.nextInt(bound);
    }

    /** A kind of call, and its arguments. */
    private int[] anyCall() {
        int kind = random.nextInt(14);
        switch (kind) {
            case 0: return new int[] {0, anything(), anything(), anything(), anything(), anything()};
            case 1: return new int[] {1, tame(121)};
            case 2: return new int[] {2, tame(2), tame(3)};
            case 3: return new int[] {3, tame(3), tame(201)};
            case 4: return random.nextInt(20) == 0 ? new int[] {5} : new int[] {4, tame(251), tame(251), anything()};
            case 5: case 13: return new int[] {4, tame(40), tame(40), random.nextInt(16)};
            case 6: return new int[] {6, tame(2), anything()};
            case 10: return new int[] {10, tame(2), tame(3), anything()};
            case 12: return new int[] {12, tame(7)};
            default: return new int[] {kind, tame(2), tame(3), tame(12)};
        }
    }

    private int[] tameLook() {
        int kind = 6 + random.nextInt(7);
        return new int[] {kind, random.nextInt(kind == 12 ? 7 : 2), random.nextInt(kind == 6 ? 40 : 3), random.nextInt(12)};
    }

    private static int answer(House house, int[] call) {
        switch (call[0]) {
            case 0: return house.feed(call[1], call[2], call[3], call[4], call[5]);
            case 1: return house.end(call[1]);
            case 2: return house.send(call[1], call[2]);
            case 3: return house.rate(call[1], call[2]) ? 1 : BearerHouse.NONE;
            case 4: return house.tick(call[1], call[2], call[3]);
            case 5: return house.renew();
            case 6: return house.block(call[1], call[2]);
            case 7: return house.sender(call[1], call[2], call[3]);
            case 8: return house.receiver(call[1], call[2], call[3]);
            case 9: return house.delivered(call[1], call[2], call[3]);
            case 10: return house.unit(call[1], call[2], call[3]);
            case 11: return house.process(call[1], call[2], call[3]);
            default: return house.world(call[1]);
        }
    }
}
