import java.util.ArrayList;
import java.util.Arrays;
import java.util.List;
import java.util.Random;
import java.util.TreeSet;

/** Random runs of 512 calls, from fixed seeds: BearerHouse must answer as PlainHouse does, in every look at it. */
public final class HouseAgainstPlainTest {
    private static final int RUNS = 8000;
    /** Calls of a run that are kept for looks at what has become of it. */
    private static final int LAST_LOOKS = 100;
    private static final String[] MUST_BE_REACHED = {
        "16 pieces on their way", "FAILED", "a BUCKET that is above", "a COUNT of L + 24",
        "a DOUBLE below NEXT", "a DOUBLE that is STORED", "a PART", "a PART by BUCKET", "a PART of what is left",
        "a PART with LENGTHS", "a STATUS that is left", "a STATUS that stops", "a block DROPPED",
        "a byte that is left", "a field of 240", "a piece HANDED as the link is made anew",
        "a run in a field's midst", "a run up to an unknown end", "an entry with a run",
        "confirmed by NEXT of a REPORT", "confirmed by a bit of a REPORT", "confirmed with some bytes gone",
        "old DATA", "DATA with nothing new", "several LENGTHS", "taken out of WAITING",
        "the POLL timer brings a piece", "the POLL timer is started by a tick", "the REORDER timer ends",
        "the REORDER timer runs again"};

    private final Random random;
    private final House house;
    private final PlainHouse plain;
    private final List<List<int[]>> taken = new ArrayList<>();
    private final StringBuilder log = new StringBuilder();
    private int[] tape = {};
    private boolean isWrong;

    private HouseAgainstPlainTest(long seed) {
        random = new Random(seed);
        int bearers = random.nextInt(5);
        int key = random.nextInt();
        house = new House(bearers, key);
        plain = new PlainHouse(bearers, key);
        for (int i = 0; i < 6; i++) {
            taken.add(new ArrayList<>());
        }
        log.append("new BearerHouse(").append(bearers).append(", ").append(key).append(")\n");
    }

    public static void main(String[] args) {
        TreeSet<String> reached = new TreeSet<>();
        int wrong = 0;
        for (int i = 0; i < RUNS && wrong < 3; i++) {
            HouseAgainstPlainTest run = new HouseAgainstPlainTest(i);
            run.go();
            reached.addAll(run.plain.reached);
            if (run.isWrong) {
                wrong++;
                System.out.println("run of seed " + i + ":\n" + run.log);
            }
        }
        for (String what : MUST_BE_REACHED) {
            if (wrong == 0 && !reached.contains(what)) {
                wrong++;
                System.out.println("no run reached: " + what);
            }
        }
        System.out.println(wrong == 0 ? RUNS + " runs are as due" : wrong + " are wrong");
        if (wrong != 0) {
            System.exit(1);
        }
    }

    private boolean chance(int percent) {
        return random.nextInt(100) < percent;
    }

    private void go() {
        int lossPercent = new int[] {0, 5, 20, 45, 80}[random.nextInt(5)];
        int turnPercent = new int[] {0, 5, 30}[random.nextInt(3)];
        int sendPercent = new int[] {3, 15, 40}[random.nextInt(3)];
        int renewPercent = new int[] {0, 1, 4, 10}[random.nextInt(4)];
        int mostRoom = new int[] {10, 25, 60, 250}[random.nextInt(4)];
        int mostBytes = new int[] {3, 20, 120}[random.nextInt(3)];
        int lookPercent = new int[] {10, 40, 70}[random.nextInt(3)];
        boolean isOneSided = random.nextBoolean();
        while (house.callsLeft() > LAST_LOOKS && !isWrong) {
            if (chance(renewPercent)) {
                due("renew()", house.renew(), plain.renew());
            } else if (chance(3)) {
                int bearer = random.nextInt(4) - (chance(10) ? 1 : 0);
                int r = chance(20) ? random.nextInt(240) - 20 : random.nextInt(20);
                due("rate(" + bearer + ", " + r + ")", house.rate(bearer, r) ? 1 : 0, plain.rate(bearer, r) ? 1 : 0);
            } else if (chance(sendPercent)) {
                sendUnit(1 + random.nextInt(mostBytes), isOneSided);
            } else {
                tickOnce(mostRoom, lossPercent, turnPercent);
            }
            while (chance(lookPercent)) {
                lookOnce();
            }
            lookAtAllDelivered();
        }
        while (house.callsLeft() > 0 && !isWrong) {
            lookOnce();
        }
    }

    private void tickOnce(int mostRoom, int lossPercent, int turnPercent) {
        int g0 = chance(2) ? random.nextInt(300) - 20 : random.nextInt(mostRoom + 1);
        int g1 = chance(2) ? random.nextInt(300) - 20 : random.nextInt(mostRoom + 1);
        int faults = (chance(lossPercent) ? 1 : 0) + (chance(lossPercent) ? 2 : 0)
            + (chance(turnPercent) ? 4 : 0) + (chance(turnPercent) ? 8 : 0) + (chance(10) ? -16 : 0);
        due("tick(" + g0 + ", " + g1 + ", " + faults + ")", house.tick(g0, g1, faults), plain.tick(g0, g1, faults));
    }

    private void sendUnit(int wish, boolean isOneSided) {
        while (tape.length < wish && tape.length <= 100) {
            int[] w = random.ints(5).toArray();
            due("feed" + Arrays.toString(w), house.feed(w[0], w[1], w[2], w[3], w[4]), plain.feed(w));
            int[] longer = Arrays.copyOf(tape, tape.length + 20);
            for (int i = 0; i < 20; i++) {
                longer[tape.length + i] = w[i / 4] >>> 24 - 8 * (i % 4) & 255;
            }
            tape = longer;
        }
        int size = Math.min(wish, tape.length);
        due("end(" + size + ")", house.end(size), plain.end(size));
        tape = Arrays.copyOf(tape, size);
        int peer = isOneSided ? 0 : random.nextInt(2);
        int bearer = random.nextInt(chance(10) ? 4 : 2);
        int count = house.send(peer, bearer);
        due("send(" + peer + ", " + bearer + ")", count, plain.send(peer, bearer));
        if (count != BearerHouse.NONE) {
            taken.get(3 * peer + bearer).add(tape);
            tape = new int[0];
        }
    }

    private void due(String call, int got, int want) {
        log.append(call).append(" -> ").append(got).append('\n');
        if (got != want) {
            isWrong = true;
            log.append("  due is ").append(want).append('\n');
        }
    }

    private void lookOnce() {
        int p = random.nextInt(2);
        int b = random.nextInt(3);
        int what = random.nextInt(14) - 1;
        String asked = "(" + p + ", " + b + ", " + what + ")";
        switch (random.nextInt(9)) {
            case 0: case 1:
                due("sender" + asked, house.sender(p, b, what), plain.sender(p, b, what));
                break;
            case 2: case 3:
                due("receiver" + asked, house.receiver(p, b, what), plain.receiver(p, b, what));
                break;
            case 4:
                int of = random.nextInt(8) - 1;
                due("delivered(" + p + ", " + b + ", " + of + ")", house.delivered(p, b, of), plain.delivered(p, b, of));
                break;
            case 5:
                int i = random.nextInt(plain.receivers[p][b].latest.length + 2) - 1;
                due("unit(" + p + ", " + b + ", " + i + ")", house.unit(p, b, i), plain.unit(p, b, i));
                break;
            case 6:
                int at = random.nextInt(Math.max(plain.block(p, -1), 0) + 2) - 1;
                due("block(" + p + ", " + at + ")", house.block(p, at), plain.block(p, at));
                break;
            case 7:
                int k = random.nextInt(5);
                due("process(" + p + ", " + k + ", " + b + ")", house.process(p, k, b), plain.process(p, k, b));
                break;
            default:
                int count = random.nextInt(9) - 1;
                due("world(" + count + ")", house.world(count), plain.world(count));
                break;
        }
    }

    private void lookAtAllDelivered() {
        for (int p = 0; p < 2; p++) {
            for (int b = 0; b < 3; b++) {
                List<int[]> brought = plain.receivers[p][b].all;
                List<int[]> sent = taken.get(3 * (1 - p) + b);
                int last = brought.size() - 1;
                boolean isBeginning = last < sent.size() && (last < 0 || Arrays.equals(brought.get(last), sent.get(last)));
                if (!isBeginning) {
                    due("unit " + last + " at (" + p + ", " + b + ") is the one that was taken", 0, 1);
                }
            }
        }
    }
}
