import java.util.Random;

/** Any arguments in any state: no call may throw, and a call that is refused, or that only looks, changes nothing. */
public final class WildCallsTest {
    private static final int[] EDGES = {0, 1, 2, 3, 4, 5, 11, 12, 119, 120, 121, 200, 201, 240, 250, 251, 255, 256,
        -1, -2, -250, Integer.MAX_VALUE, Integer.MIN_VALUE, Integer.MAX_VALUE - 1, 1 << 16};

    private final Random random;
    private final BearerHouse house;

    private WildCallsTest(int seed) {
        random = new Random(seed);
        house = new BearerHouse(wild(), wild());
    }

    public static void main(String[] args) {
        int wrong = 0;
        for (int seed = 0; seed < 400; seed++) {
            WildCallsTest test = new WildCallsTest(seed);
            for (int i = 0; i < 512; i++) {
                String problem = test.callOnce();
                if (problem != null && wrong++ < 5) {
                    System.out.println("run " + seed + ", call " + i + ": " + problem);
                }
            }
        }
        System.out.println(wrong == 0 ? "no wild call did harm" : wrong + " wild calls did harm");
        if (wrong != 0) {
            System.exit(1);
        }
    }

    private int wild() {
        return random.nextInt(5) == 0 ? random.nextInt() : EDGES[random.nextInt(EDGES.length)];
    }

    /** Mostly a number that is fine, so that there are states to be wild in. */
    private int tame(int bound) {
        return random.nextInt(8) == 0 ? wild() : random.nextInt(bound);
    }

    private String callOnce() {
        long before = everything();
        int kind = random.nextInt(14);
        try {
            boolean mayChange = kind < 6 ? actOnce(kind) : lookOnce(kind);
            if (!mayChange && everything() != before) {
                return "kind " + kind + " changed something";
            }
        } catch (RuntimeException e) {
            return "kind " + kind + " threw " + e;
        }
        return null;
    }

    private boolean actOnce(int kind) {
        switch (kind) {
            case 0: return house.feed(wild(), wild(), wild(), wild(), wild()) != BearerHouse.NONE;
            case 1: return house.end(tame(121)) != BearerHouse.NONE;
            case 2: return house.send(tame(2), tame(3)) != BearerHouse.NONE;
            case 3: return house.rate(tame(3), tame(201));
            case 4: return house.tick(tame(251), tame(251), wild()) != BearerHouse.NONE;
            default:
                if (random.nextInt(20) == 0) {
                    house.renew();
                    return true;
                }
                return house.tick(tame(40), tame(40), random.nextInt(16)) != BearerHouse.NONE;
        }
    }

    private boolean lookOnce(int kind) {
        switch (kind) {
            case 6: house.block(tame(2), wild()); break;
            case 7: house.sender(tame(2), tame(3), tame(12)); break;
            case 8: house.receiver(tame(2), tame(3), tame(12)); break;
            case 9: house.delivered(tame(2), tame(3), tame(6)); break;
            case 10: house.unit(tame(2), tame(3), wild()); break;
            case 11: house.process(tame(2), tame(4), tame(3)); break;
            case 12: house.world(tame(7)); break;
            default: house.world(wild()); break;
        }
        return false;
    }

    private long everything() {
        long hash = 0;
        for (int what = 0; what < 12; what++) {
            hash = 1000003 * hash + house.world(what);
            for (int p = 0; p < 2; p++) {
                hash = 1000003 * hash + house.process(p, what % 4, what / 4);
                for (int b = 0; b < 3; b++) {
                    hash = 1000003 * hash + house.sender(p, b, what);
                    hash = 1000003 * hash + house.receiver(p, b, what);
                    hash = 1000003 * hash + house.delivered(p, b, what);
                    hash = 1000003 * hash + house.unit(p, b, what);
                }
            }
        }
        for (int i = -1; i < 250; i++) {
            hash = 1000003 * hash + house.block(0, i) + 7L * house.block(1, i);
        }
        return hash;
    }
}
