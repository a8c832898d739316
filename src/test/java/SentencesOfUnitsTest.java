import java.util.ArrayList;
import java.util.Arrays;
import java.util.List;
import java.util.Random;

/** The document's Terms, from the peers up to the packets that wait: a test for each sentence that names an edge. */
public final class SentencesOfUnitsTest extends Bench {
    private static final String TERMS = "Terms";
    private static final int[][] PLACES = {{0, 0}, {0, 1}, {0, 2}, {1, 0}, {1, 1}, {1, 2}};

    public static void main(String[] args) {
        of(TERMS, "What a bearer brings is always a beginning of what was taken for it, byte for byte.",
            SentencesOfUnitsTest::bringsABeginning);
        of(TERMS, "PEERS are 0 and 1, BEARERS 0 .. (as many as the house has).", SentencesOfUnitsTest::noOtherPlaces);
        of(TERMS, "For each peer p and bearer b there is a SENDER(p, b), which sends to RECEIVER(1 - p, b).",
            SentencesOfUnitsTest::sendsToItsReceiver);
        of(TERMS, "Numbers count on without end; on the air stand their lowest six bits, and who gets them knows which is"
            + " meant, as is told.", SentencesOfUnitsTest::numbersGoOver63);
        of(TERMS, "All bytes are 0 .. 255.", SentencesOfUnitsTest::bytesFrom0To255);
        of(TERMS, "UNITS have 1 to 120 bytes.", SentencesOfUnitsTest::unitsOf1And120Bytes);
        of(TERMS, "COUNTS are 0, 1, .. at each SENDER;", SentencesOfUnitsTest::countsAtEachSender);
        of(TERMS, "one is KEPT from when it is taken till it is confirmed.", SentencesOfUnitsTest::keptTillConfirmed);
        of(TERMS, "A SENDER takes a unit, if its COUNT is below L + 24,", SentencesOfUnitsTest::takes24);
        of(TERMS, "L being the lowest that is KEPT", SentencesOfUnitsTest::theLowestKeptBounds);
        of(TERMS, "(or the next one's).", SentencesOfUnitsTest::takes24MoreWithNoneKept);
        of(TERMS, "Its PACKET: a byte 128 + (COUNT & 63), then its bytes,", SentencesOfUnitsTest::firstByteGoesOver63);
        of(TERMS, "each XORed with one of the KEYSTREAM: the bytes of AES-128 of block 0, block 1, ..;",
            SentencesOfUnitsTest::blocksOf16);
        of(TERMS, "block j is COUNT (four bytes, the highest first),", SentencesOfUnitsTest::allOfTheCountIsInTheBlock);
        of(TERMS, "a byte 8 * b + 4 * p, seven 0s, j (four bytes);", SentencesOfUnitsTest::eachPlaceHasItsStream);
        of(TERMS, "the KEY, that of the EPOCH e in which a packet goes out and comes (0 at first), has the bytes"
            + " ((SEED >> 8 * (i & 3)) + 17 * i + 29 * e) & 255, i from 0 to 15.", SentencesOfUnitsTest::keysOfEpochs);
        of(TERMS, "WAITING are packets, in order, of the first one perhaps some bytes gone already.",
            SentencesOfUnitsTest::someBytesGone);
        finish();
    }

    private static void bringsABeginning() {
        int fruitful = 0;
        for (int seed = 0; seed < 60; seed++) {
            fruitful += runOf(new Random(seed), 1 + seed % 3);
        }
        due("most looks find units", fruitful > 1000, true);
    }

    /** Nearly up to the last call: sends, losses, turned answers and renewals; how many looks found units. */
    private static int runOf(Random random, int bearers) {
        House h = new House(bearers, random.nextInt());
        List<List<int[]>> taken = new ArrayList<>();
        for (int i = 0; i < 2 * bearers; i++) {
            taken.add(new ArrayList<>());
        }
        int loss = random.nextInt(60);
        int rarely = 20 + random.nextInt(80);
        int fruitful = 0;
        while (h.callsLeft() > 30) {
            int place = random.nextInt(2 * bearers);
            int start = random.nextInt(256);
            int size = 1 + random.nextInt(random.nextBoolean() ? 120 : 5);
            if (random.nextInt(4) == 0 && give(h, place % 2, place / 2, size, start) != NONE) {
                taken.get(place).add(row(size, start));
            }
            h.end(0);
            int faults = (random.nextInt(100) < loss ? 1 : 0) + (random.nextInt(100) < loss ? 2 : 0)
                + (random.nextInt(100) < loss / 2 ? 4 : 0) + (random.nextInt(100) < loss / 2 ? 8 : 0);
            h.tick(random.nextInt(251), random.nextInt(251), faults);
            if (random.nextInt(rarely) == 0) {
                h.renew();
            }
            fruitful += lookAt(h, 1 - place % 2, place / 2, taken.get(place));
        }
        return fruitful;
    }

    /** 1 if units came; the sum tells whether they are the first ones that were taken. */
    private static int lookAt(House h, int peer, int bearer, List<int[]> taken) {
        int many = h.delivered(peer, bearer, NEXT);
        due("no more than was taken", many <= taken.size(), true);
        int sum = 0;
        for (int i = 0; i < Math.min(many, taken.size()); i++) {
            sum = sumOf(sum, taken.get(i));
        }
        due("its sum", h.delivered(peer, bearer, SUM), sum);
        if (many > 0 && many <= taken.size()) {
            int[] latest = taken.get(many - 1);
            due("its last byte", h.unit(peer, bearer, latest.length - 1), latest[latest.length - 1]);
        }
        return many > 0 ? 1 : 0;
    }

    private static void noOtherPlaces() {
        for (int bearers = 1; bearers <= 3; bearers++) {
            House h = new House(bearers, 7);
            h.feed(1, 2, 3, 4, 5);
            int[][] wrong = {{-1, 0}, {2, 0}, {0, -1}, {1, -1}, {0, bearers}, {1, bearers}, {LEAST, 0}, {MOST, 0},
                {0, LEAST}, {0, MOST}};
            for (int[] at : wrong) {
                String place = "(" + at[0] + ", " + at[1] + ") of " + bearers;
                due("send" + place, h.send(at[0], at[1]), NONE);
                due("sender" + place, h.sender(at[0], at[1], A), NONE);
                due("receiver" + place, h.receiver(at[0], at[1], R), NONE);
                due("delivered" + place, h.delivered(at[0], at[1], NEXT), NONE);
            }
            for (int peer = 0; peer < 2; peer++) {
                for (int b = 0; b < bearers; b++) {
                    String place = "(" + peer + ", " + b + ") of " + bearers;
                    due("sender" + place, h.sender(peer, b, A), 0);
                    due("receiver" + place, h.receiver(peer, b, R), 0);
                    due("delivered" + place, h.delivered(peer, b, NEXT), 0);
                }
            }
        }
    }

    private static void sendsToItsReceiver() {
        for (int[] from : PLACES) {
            House h = new House(3, 5);
            give(h, from[0], from[1], 7, 40);
            h.tick(60, 60, 0);
            for (int[] to : PLACES) {
                boolean isMeant = to[0] == 1 - from[0] && to[1] == from[1];
                due("from " + Arrays.toString(from) + " to " + Arrays.toString(to), h.delivered(to[0], to[1], NEXT),
                    isMeant ? 1 : 0);
            }
        }
    }

    /** A unit goes byte by byte, each in a piece of its own; STATUS comes back all the time. */
    private static void numbersGoOver63() {
        House h = plainHouse();
        giveAll(h, 120);
        for (int i = 0; i < 121; i++) {
            h.tick(5, 4, 0);
            due("the number of piece " + i, h.block(0, 3), i & 63);
            if (h.block(1, -1) != NONE) {
                due("the ACK for piece " + i, h.block(1, 3), i + 1 & 63);
            }
        }
        due("S", h.sender(0, 0, S), 121);
        due("R", h.receiver(1, 0, R), 121);
        due("delivered", h.delivered(1, 0, NEXT), 1);
        idle(h, 4);
        h.tick(0, 4, 0);
        due("A", h.sender(0, 0, A), 121);
    }

    private static void bytesFrom0To255() {
        House h = plainHouse();
        h.feed(-1, LEAST, MOST, 0, 0x00FF7F80);
        h.send(0, 0);
        h.tick(40, 40, 0);
        int[] unit = new int[20];
        for (int i = 0; i < 20; i++) {
            unit[i] = h.unit(1, 0, i);
        }
        dueAll("the unit", unit, 255, 255, 255, 255, 128, 0, 0, 0, 127, 255, 255, 255, 0, 0, 0, 0, 0, 255, 127, 128);
        for (int value : blockOf(h, 0)) {
            due("a byte on the air", value >= 0 && value <= 255, true);
        }
    }

    private static void unitsOf1And120Bytes() {
        for (int size : new int[] {1, 120}) {
            House h = plainHouse();
            due("COUNT", give(h, 0, 0, size, 200), 0);
            due("WAITING with its first byte", h.sender(0, 0, WAITING), size + 1);
            h.tick(250, 250, 0);
            due("came", h.delivered(1, 0, LATEST), size);
            for (int i = 0; i < size; i++) {
                due("byte " + i, h.unit(1, 0, i), 200 + i & 255);
            }
            due("no more", h.unit(1, 0, size), NONE);
            due("confirmed", h.sender(0, 0, KEPT), 0);
        }
    }

    private static void countsAtEachSender() {
        House h = new House(3, 1);
        for (int[] at : PLACES) {
            due("the first", give(h, at[0], at[1], 3, 0), 0);
            due("the next", give(h, at[0], at[1], 3, 0), 1);
            due("the next COUNT", h.sender(at[0], at[1], NEXT_COUNT), 2);
        }
    }

    private static void keptTillConfirmed() {
        House h = plainHouse();
        due("none", h.sender(0, 0, KEPT), 0);
        giveAll(h, 3);
        due("taken", h.sender(0, 0, KEPT), 1);
        h.tick(20, 0, 0);
        due("come, but not confirmed", h.sender(0, 0, KEPT) + h.delivered(1, 0, NEXT), 2);
        h.tick(0, 20, 0);
        due("confirmed", h.sender(0, 0, KEPT), 0);
    }

    private static void takes24() {
        House h = new House(2, 3);
        for (int i = 0; i < 24; i++) {
            due("COUNT L + " + i, give(h, 0, 1, 1, i), i);
        }
        due("COUNT L + 24", give(h, 0, 1, 1, 0), NONE);
        due("again", h.send(0, 1), NONE);
        due("KEPT", h.sender(0, 1, KEPT), 24);
        due("the other SENDERS are not full", h.send(0, 0), 0);
        due("nor is the other peer's", give(h, 1, 1, 1, 0), 0);
    }

    /** Of 24 units the first one is missing; all others are STORED, and a REPORT confirms them. */
    private static void theLowestKeptBounds() {
        House h = plainHouse();
        for (int i = 0; i < 24; i++) {
            giveAll(h, 1);
        }
        h.tick(6, 0, GONE_0);
        h.tick(250, 0, 0);
        h.renew();
        due("STORED", h.delivered(1, 0, STORED), 23);
        h.tick(0, 250, 0);
        due("one is KEPT", h.sender(0, 0, KEPT), 1);
        due("which is the lowest: no room for COUNT 24", give(h, 0, 0, 1, 0), NONE);
        h.end(0);
        h.tick(250, 250, 0);
        due("it is confirmed", h.sender(0, 0, KEPT), 0);
        due("then there is", give(h, 0, 0, 1, 0), 24);
    }

    private static void takes24MoreWithNoneKept() {
        House h = plainHouse();
        for (int i = 0; i < 5; i++) {
            giveAll(h, 1);
        }
        h.tick(250, 250, 0);
        due("none is KEPT", h.sender(0, 0, KEPT), 0);
        for (int i = 5; i < 29; i++) {
            due("L is 5, COUNT", give(h, 0, 0, 1, 0), i);
        }
        due("COUNT 29 is L + 24", give(h, 0, 0, 1, 0), NONE);
    }

    /** A plain house with as many units delivered and confirmed, whose timers don't run. */
    private static House houseWithNext(int count) {
        House h = plainHouse();
        for (int i = 0; i < count; i++) {
            giveAll(h, 1);
            if (i % 24 == 23 || i == count - 1) {
                h.tick(250, 250, 0);
                idle(h, 5);
            }
        }
        due("all confirmed", h.sender(0, 0, KEPT), 0);
        due("NEXT", h.delivered(1, 0, NEXT), count);
        return h;
    }

    private static void firstByteGoesOver63() {
        House h = houseWithNext(63);
        giveAll(h, 1, 1, 1);
        h.tick(250, 0, 0);
        // Two LENGTHS stand ahead of the packets of two bytes.
        dueAll("COUNTS 63, 64, 65", new int[] {h.block(0, 6), h.block(0, 8), h.block(0, 10)}, 128 + 63, 128, 129);
        due("the others know which are meant", h.delivered(1, 0, NEXT), 66);
        House first = plainHouse();
        giveAll(first, 1);
        first.tick(250, 0, 0);
        due("COUNT 0", first.block(0, 4), 128);
    }

    private static void blocksOf16() {
        for (int size : new int[] {1, 15, 16, 17, 32, 33, 120}) {
            House h = plainHouse();
            giveAll(h, size);
            h.tick(250, 0, 0);
            dueAll(size + " bytes", air(h, 0, 4, 4 + size + 1), packet(size, 0));
        }
    }

    private static void allOfTheCountIsInTheBlock() {
        House h = houseWithNext(64);
        giveAll(h, 20);
        h.tick(250, 0, 0);
        dueAll("COUNT 64 is not 0", air(h, 0, 4, 25), packet(20, 64));
        due("it is deciphered with 64, too", h.unit(1, 0, 19), 19);
    }

    private static void eachPlaceHasItsStream() {
        for (int[] at : PLACES) {
            House h = new House(3, 99);
            h.rate(at[1], 200);
            give(h, at[0], at[1], 40, 3);
            h.tick(250, 250, 0);
            dueAll("packet of " + Arrays.toString(at), air(h, at[0], 4, 45), packet(row(40, 3), 99, 0, 0, at[0], at[1]));
            due("deciphered", h.delivered(1 - at[0], at[1], SUM), sumOf(0, row(40, 3)));
        }
    }

    private static void keysOfEpochs() {
        int[] seeds = {0, -1, LEAST, MOST, 0x80FF7F01};
        for (int seed : seeds) {
            // 29 * 9 is above 255.
            for (int epoch : new int[] {0, 1, 8, 9}) {
                House h = new House(1, seed);
                h.rate(0, 200);
                for (int i = 0; i < epoch; i++) {
                    h.renew();
                }
                give(h, 0, 0, 20, 3);
                h.tick(250, 0, 0);
                // From the first renewal on a LENGTH and a REPORT of two bytes stand ahead.
                int at = epoch == 0 ? 4 : 7;
                dueAll("seed " + seed + ", epoch " + epoch, air(h, 0, at, at + 21),
                    packet(row(20, 3), seed, epoch, 0, 0, 0));
                due("deciphered", h.delivered(1, 0, SUM), sumOf(0, row(20, 3)));
            }
        }
    }

    private static void someBytesGone() {
        House h = plainHouse();
        giveAll(h, 10, 5);
        due("nothing gone", h.sender(0, 0, WAITING), 11 + 6);
        h.tick(8, 0, 0);
        due("four bytes gone", h.sender(0, 0, WAITING), 7 + 6);
        dueAll("the first ones", air(h, 0, 4, 8), part(packet(10, 0), 0, 4));
        h.tick(11, 0, 0);
        due("all of the first one gone", h.sender(0, 0, WAITING), 6);
        dueAll("its last ones", air(h, 0, 4, 11), part(packet(10, 0), 4, 11));
        h.tick(10, 0, 0);
        due("all gone", h.sender(0, 0, WAITING), 0);
        dueAll("the second one, in order", air(h, 0, 4, 10), packet(5, 1));
    }
}
