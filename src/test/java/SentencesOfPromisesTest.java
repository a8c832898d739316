import java.util.Arrays;

/** The promises 1 to 14, and what stands ahead of the Terms: a test for each sentence that names an edge. */
public final class SentencesOfPromisesTest extends Bench {
    private static final String NONE_SUCH = "NONE if there is none such.";

    public static void main(String[] args) {
        newHouse();
        tapeAndUnits();
        ticks();
        looksAtTheAir();
        looksAtSendersAndReceivers();
        looksAtTheRest();
        finish();
    }

    private static void newHouse() {
        of("What it is", "An object is used for at most 512 calls after it has been made;",
            SentencesOfPromisesTest::rightUpToTheLastCall);
        of("The public face", "public static final int NONE = -1;", () -> due("NONE", BearerHouse.NONE, -1));
        of("Terms", "The constants: `NONE = -1`: None.", () -> due("NONE", BearerHouse.NONE, -1));
        of("Promise 1", "A house with 1 to 3 BEARERS (another number means 2),",
            SentencesOfPromisesTest::anotherNumberMeans2);
        of("Promise 1", "and a SEED.", SentencesOfPromisesTest::anySeed);
    }

    private static void tapeAndUnits() {
        of("Promise 2", "Twenty bytes (the four of a, the highest first, then those of b, ..) come to the TAPE: how many it"
            + " has;", SentencesOfPromisesTest::bytesOfFeed);
        of("Promise 2", "NONE, and none come, if there would be more than 120.", SentencesOfPromisesTest::feedOver120);
        of("Promise 3", "The TAPE keeps its first n bytes: n;", SentencesOfPromisesTest::keepsTheFirst);
        of("Promise 3", "NONE if n is not 0 .. as many as it has.", SentencesOfPromisesTest::endOutside);
        of("Promise 4", "A SENDER takes the TAPE (which is empty then) as a unit, whose packet is WAITING: its COUNT.",
            SentencesOfPromisesTest::tapeIsEmptyThen);
        of("Promise 4", "NONE, and nothing changes: no such SENDER,", SentencesOfPromisesTest::noSuchSender);
        of("Promise 4", "an empty TAPE,", SentencesOfPromisesTest::anEmptyTape);
        of("Promise 4", "or a COUNT of L + 24.", SentencesOfPromisesTest::aCountOfL24);
        of("Promise 5", "RATE of a bearer, at both peers, is r (0 .. 200),", SentencesOfPromisesTest::ratesFrom0To200);
        of("Promise 5", "BUCKETS stay as they are: true;", SentencesOfPromisesTest::bucketsStay);
        of("Promise 5", "false without such a bearer, or for another r.", SentencesOfPromisesTest::noSuchRate);
    }

    private static void ticks() {
        of("Promise 6", "A TICK, with room for a block of g0 bytes for peer 0, of g1 for peer 1 (0 .. 250);",
            SentencesOfPromisesTest::roomFrom0To250);
        of("Promise 6", "faults: 1: the block of peer 0 is lost, 2: of 1, 4: the answer to peer 0 is turned, 8: to 1",
            SentencesOfPromisesTest::allFaults);
        of("Promise 6", "(16 and above mean nothing).", SentencesOfPromisesTest::otherFaultsMeanNothing);
        of("Promise 6", "1 if peer 0 sent a block, + 2 if peer 1 did, + 4, 8 if that came for the first time;",
            SentencesOfPromisesTest::answersOfTick);
        of("Promise 6", "NONE, and nothing happens, for another g0 or g1.", SentencesOfPromisesTest::noSuchRoom);
        of("Promise 7", "THE LINK IS MADE ANEW: the EPOCH.", SentencesOfPromisesTest::renewOfANewHouse);
    }

    private static void looksAtTheAir() {
        of("Promise 8", "Of the block that a peer sent in the latest tick: byte i;", SentencesOfPromisesTest::latestTick);
        of("Promise 8", "its size for i = -1.", SentencesOfPromisesTest::sizesOfBlocks);
        of("Promise 8", NONE_SUCH, SentencesOfPromisesTest::noSuchByte);
    }

    private static void looksAtSendersAndReceivers() {
        of("Promise 9", "Of SENDER(peer, bearer): A (what 0), S (1), units KEPT (2), bytes WAITING (3), bytes in AGAIN (4),"
            + " ticks the POLL timer runs yet (5; 0: it doesn't), FAILED (6: 1, else 0),",
            SentencesOfPromisesTest::whatASenderTells);
        of("Promise 9", "the BUCKET (7), DATA made (8), of these not new (9), STATUS that came (10), the next COUNT (11).",
            SentencesOfPromisesTest::whatASenderCounts);
        of("Promise 9", NONE_SUCH, SentencesOfPromisesTest::noSuchAskOfASender);
        of("Promise 10", "Of RECEIVER(peer, bearer): R (what 0), H (1), MS (2), X (3), ticks the REORDER timer runs yet (4),"
            + " the PROHIBIT timer (5), WANTED (6: 1, else 0), bytes of pieces that are not HANDED (7),",
            SentencesOfPromisesTest::whatAReceiverTells);
        of("Promise 10", "STATUS made (8), DATA that came (9), of these with no byte that hadn't (10; old ones, too),",
            SentencesOfPromisesTest::whatAReceiverCounts);
        of("Promise 10", "POLLS (11; NONE without).", SentencesOfPromisesTest::pollsWithout);
        of("Promise 10", NONE_SUCH, SentencesOfPromisesTest::noSuchAskOfAReceiver);
    }

    private static void looksAtTheRest() {
        of("Promise 11", "At RECEIVER(peer, bearer), units DELIVERED (what 0, which is NEXT), their bytes (1), DOUBLES (2),"
            + " units STORED (3),", SentencesOfPromisesTest::whatDeliveredTells);
        of("Promise 11", "a sum over all that was DELIVERED (4: 0 at first; for each unit s = 31 * s + how many bytes, then"
            + " s = 31 * s + byte for each; wrapping),", SentencesOfPromisesTest::sumsWrap);
        of("Promise 11", "bytes of the latest one DELIVERED (5; 0 ahead of any).",
            SentencesOfPromisesTest::latestAheadOfAny);
        of("Promise 11", NONE_SUCH, SentencesOfPromisesTest::noSuchAskOfDelivered);
        of("Promise 12", "Byte i of the latest unit that was DELIVERED there;", SentencesOfPromisesTest::latestUnit);
        of("Promise 12", NONE_SUCH, SentencesOfPromisesTest::noSuchUnit);
        of("Promise 13", "SENDINGS of the block that a peer's PROCESS k (0 .. 3) has (what 0; 0: it is empty),",
            SentencesOfPromisesTest::sendingsFrom0To2);
        of("Promise 13", "its size (1), whether it has come (2: 1, else 0).", SentencesOfPromisesTest::sizeAndWhetherCome);
        of("Promise 13", NONE_SUCH, SentencesOfPromisesTest::noSuchProcess);
        of("Promise 14", "blocks sent, each SENDING (2), lost (3), answers turned (4; of blocks that were sent),",
            SentencesOfPromisesTest::worldCountsSendings);
        of("Promise 14", "How many ticks (what 0), EPOCH (1),", SentencesOfPromisesTest::worldCountsTicks);
        of("Promise 14", "blocks DROPPED (5), PARTS worked on (6).", SentencesOfPromisesTest::worldCountsParts);
        of("Promise 14", "NONE for another what.", SentencesOfPromisesTest::noSuchWhat);
    }

    private static void rightUpToTheLastCall() {
        House h = plainHouse();
        int sum = 0;
        while (h.callsLeft() > 4) {
            int i = (House.CALLS - h.callsLeft()) / 5;
            h.feed(i, 0, 0, 0, -1);
            due("COUNT", h.send(0, 0), i);
            h.tick(60, 60, 0);
            due("delivered", h.delivered(1, 0, NEXT), i + 1);
            int[] unit = new int[20];
            unit[3] = i;
            Arrays.fill(unit, 16, 20, 255);
            sum = sumOf(sum, unit);
            due("sum", h.delivered(1, 0, SUM), sum);
        }
        due("all 512 calls were made", h.callsLeft(), 1);
        due("the last one is right, too", h.unit(1, 0, 19), 255);
    }

    private static void anotherNumberMeans2() {
        int[][] cases = {{1, 1}, {2, 2}, {3, 3}, {0, 2}, {4, 2}, {-1, 2}, {5, 2}, {MOST, 2}, {LEAST, 2}};
        for (int[] c : cases) {
            House h = new House(c[0], 7);
            for (int b = 0; b < 5; b++) {
                due("bearer " + b + " of a house made with " + c[0], h.sender(1, b, A), b < c[1] ? 0 : NONE);
            }
        }
    }

    private static void anySeed() {
        for (int seed : new int[] {0, 1, -1, LEAST, MOST}) {
            House h = new House(1, seed);
            give(h, 0, 0, 9, 5);
            h.tick(60, 60, 0);
            due("seed " + seed, h.delivered(1, 0, SUM), sumOf(0, row(9, 5)));
            dueAll("its packet", air(h, 0, 4, 14), packet(row(9, 5), seed, 0, 0, 0, 0));
        }
    }

    private static void bytesOfFeed() {
        House h = plainHouse();
        due("20", h.feed(0x80FF0102, -1, 0, 0x0A0B0C0D, LEAST), 20);
        due("40", h.feed(MOST, 1, 2, 3, 0x04000005), 40);
        h.send(0, 0);
        h.tick(100, 0, 0);
        int[] unit = new int[40];
        for (int i = 0; i < 40; i++) {
            unit[i] = h.unit(1, 0, i);
        }
        dueAll("the highest byte first", unit, 128, 255, 1, 2, 255, 255, 255, 255, 0, 0, 0, 0, 10, 11, 12, 13, 128, 0, 0, 0,
            127, 255, 255, 255, 0, 0, 0, 1, 0, 0, 0, 2, 0, 0, 0, 3, 4, 0, 0, 5);
    }

    private static void feedOver120() {
        House h = plainHouse();
        for (int i = 1; i <= 6; i++) {
            due("feed " + i, h.feed(i, i, i, i, i), 20 * i);
        }
        due("140", h.feed(9, 9, 9, 9, 9), NONE);
        due("none came", h.end(121), NONE);
        due("101", h.end(101), 101);
        due("121", h.feed(9, 9, 9, 9, 9), NONE);
        due("none came", h.end(102), NONE);
        due("100", h.end(100), 100);
        due("120", h.feed(7, 7, 7, 7, 7), 120);
        h.send(0, 0);
        h.tick(250, 0, 0);
        dueAll("what was fed", new int[] {h.unit(1, 0, 99), h.unit(1, 0, 103), h.unit(1, 0, 119)}, 5, 7, 7);
    }

    private static void keepsTheFirst() {
        House h = plainHouse();
        h.feed(0x01020304, 0x05060708, 0, 0, 0);
        due("all", h.end(20), 20);
        due("some", h.end(3), 3);
        due("they are no more", h.end(4), NONE);
        due("feed behind", h.feed(0x55000000, 0, 0, 0, 0), 23);
        due("one more", h.end(4), 4);
        h.send(0, 0);
        h.tick(100, 0, 0);
        dueAll("its first", new int[] {h.unit(1, 0, 0), h.unit(1, 0, 2), h.unit(1, 0, 3), h.unit(1, 0, 4)},
            1, 3, 0x55, NONE);
        h.feed(1, 2, 3, 4, 5);
        due("none", h.end(0), 0);
        due("20 from the first on", h.feed(1, 2, 3, 4, 5), 20);
    }

    private static void endOutside() {
        House h = plainHouse();
        due("0 of none", h.end(0), 0);
        due("1 of none", h.end(1), NONE);
        h.feed(1, 2, 3, 4, 5);
        for (int n : new int[] {-1, 21, 120, LEAST, MOST}) {
            due("end(" + n + ")", h.end(n), NONE);
        }
        due("the TAPE is as it was", h.end(20), 20);
    }

    private static void tapeIsEmptyThen() {
        House h = plainHouse();
        h.feed(1, 2, 3, 4, 5);
        due("COUNT", h.send(0, 0), 0);
        due("WAITING", h.sender(0, 0, WAITING), 21);
        due("the TAPE is empty", h.end(1), NONE);
        due("20 from the first on", h.feed(1, 2, 3, 4, 5), 20);
        due("the next COUNT", h.send(0, 0), 1);
        due("WAITING", h.sender(0, 0, WAITING), 42);
    }

    private static void noSuchSender() {
        House h = plainHouse();
        giveAll(h, 3);
        h.feed(1, 2, 3, 4, 5);
        int[] before = everything(h);
        int[][] none = {{-1, 0}, {2, 0}, {0, -1}, {0, 1}, {1, 1}, {LEAST, 0}, {0, MOST}, {MOST, LEAST}};
        for (int[] c : none) {
            due("send" + Arrays.toString(c), h.send(c[0], c[1]), NONE);
        }
        dueAll("nothing changes", everything(h), before);
        due("nor does the TAPE", h.end(20), 20);
    }

    private static void anEmptyTape() {
        House h = plainHouse();
        int[] before = everything(h);
        due("at first", h.send(0, 0), NONE);
        h.feed(1, 2, 3, 4, 5);
        h.end(0);
        due("behind end(0)", h.send(1, 0), NONE);
        dueAll("nothing changes", everything(h), before);
        giveAll(h, 3);
        due("behind a send", h.send(0, 0), NONE);
        due("the next COUNT", h.sender(0, 0, NEXT_COUNT), 1);
    }

    private static void aCountOfL24() {
        House h = plainHouse();
        for (int i = 0; i < 24; i++) {
            due("COUNT", give(h, 0, 0, 1, 0), i);
        }
        h.feed(1, 2, 3, 4, 5);
        int[] before = everything(h);
        due("L + 24", h.send(0, 0), NONE);
        dueAll("nothing changes", everything(h), before);
        due("nor does the TAPE", h.end(20), 20);
        due("the other SENDER takes it", h.send(1, 0), 0);
    }

    private static void ratesFrom0To200() {
        for (int r : new int[] {0, 1, 199, 200}) {
            House h = new House(2, 1);
            due("rate(1, " + r + ")", h.rate(1, r), true);
            idle(h, 1);
            dueAll("both peers, this bearer alone", new int[] {h.sender(0, 0, BUCKET), h.sender(1, 0, BUCKET),
                h.sender(0, 1, BUCKET), h.sender(1, 1, BUCKET)}, 16, 16, r, r);
        }
    }

    private static void bucketsStay() {
        House h = new House(1, 1);
        idle(h, 2);
        h.rate(0, 0);
        due("32", h.sender(0, 0, BUCKET), 32);
        h.rate(0, 200);
        due("as it is", h.sender(1, 0, BUCKET), 32);
        idle(h, 1);
        due("till a tick", h.sender(1, 0, BUCKET), 232);
    }

    private static void noSuchRate() {
        House h = new House(2, 1);
        int[][] none = {{-1, 5}, {2, 5}, {3, 5}, {LEAST, 5}, {MOST, 5}, {0, -1}, {0, 201}, {1, LEAST}, {1, MOST}};
        for (int[] c : none) {
            due("rate" + Arrays.toString(c), h.rate(c[0], c[1]), false);
        }
        idle(h, 1);
        dueAll("RATES are as they were", new int[] {h.sender(0, 0, BUCKET), h.sender(1, 1, BUCKET)}, 16, 16);
        due("bearer 2 of three", new House(3, 1).rate(2, 5), true);
    }

    private static void roomFrom0To250() {
        House h = plainHouse();
        giveAll(h, 120, 120, 120);
        give(h, 1, 0, 120, 0);
        due("0 and 0", h.tick(0, 0, 0), 0);
        due("250 and 5", h.tick(250, 5, GONE_0 + GONE_1), 3);
        dueAll("sizes", new int[] {h.block(0, -1), h.block(1, -1)}, 250, 5);
        due("5 and 250", h.tick(5, 250, GONE_0 + GONE_1), 3);
        dueAll("sizes", new int[] {h.block(0, -1), h.block(1, -1)}, 5, 250);
        due("4 and 4", h.tick(4, 4, 0), 0);
    }

    private static void allFaults() {
        for (int faults = 0; faults < 16; faults++) {
            House h = plainHouse();
            giveAll(h, 3);
            give(h, 1, 0, 3, 0);
            h.tick(8, 8, faults);
            boolean lost0 = (faults & 1) != 0;
            boolean lost1 = (faults & 2) != 0;
            boolean turned0 = (faults & 4) != 0;
            boolean turned1 = (faults & 8) != 0;
            dueAll("faults " + faults + ": came", new int[] {h.receiver(1, 0, DATA_CAME), h.world(6)}, lost0 ? 0 : 1,
                (lost0 ? 0 : 1) + (lost1 ? 0 : 1));
            dueAll("faults " + faults + ": empty", new int[] {h.process(0, 1, 0), h.process(1, 1, 0)},
                lost0 != turned0 ? 1 : 0, lost1 != turned1 ? 1 : 0);
        }
    }

    private static void otherFaultsMeanNothing() {
        for (int faults : new int[] {16, 32, 1 << 16, 1 << 30, LEAST, -16}) {
            House h = plainHouse();
            giveAll(h, 3);
            give(h, 1, 0, 3, 0);
            due("faults " + faults, h.tick(8, 12, faults), 15);
            dueAll("nothing lost or turned", new int[] {h.world(3), h.world(4)}, 0, 0);
        }
        House all = plainHouse();
        giveAll(all, 3);
        due("-1 has all faults", all.tick(8, 0, -1), 1);
    }

    private static void answersOfTick() {
        House h = plainHouse();
        due("none", h.tick(20, 20, 0), 0);
        giveAll(h, 3);
        due("peer 0, lost", h.tick(8, 0, 1), 1);
        give(h, 1, 0, 3, 0);
        due("peer 1, lost", h.tick(0, 8, 2), 2);
        idle(h, 2);
        due("peer 0 comes, turned", h.tick(0, 0, 4), 1 + 4);
        due("peer 1 comes, turned", h.tick(0, 0, 8), 2 + 8);
        idle(h, 2);
        due("not for the first time", h.tick(0, 0, 0), 1);
        due("nor here", h.tick(0, 0, 0), 2);
    }

    private static void noSuchRoom() {
        House h = plainHouse();
        giveAll(h, 30);
        h.tick(8, 8, 1);
        int[] before = everything(h);
        int[][] none = {{-1, 0}, {251, 0}, {0, -1}, {0, 251}, {LEAST, 0}, {0, MOST}, {300, 300}};
        for (int[] c : none) {
            due("tick(" + c[0] + ", " + c[1] + ", 0)", h.tick(c[0], c[1], 0), NONE);
        }
        dueAll("nothing happens", everything(h), before);
        due("the block can be read yet", h.block(0, 0), 0);
    }

    private static void renewOfANewHouse() {
        House h = new House(2, 1);
        due("1", h.renew(), 1);
        due("2", h.renew(), 2);
        due("a REPORT is WAITING", h.sender(1, 1, WAITING), 2);
        due("3", h.renew(), 3);
        due("world", h.world(1), 3);
    }

    private static void latestTick() {
        House h = plainHouse();
        giveAll(h, 3, 3);
        h.tick(8, 0, 1);
        due("peer 0's, though it is lost", h.block(0, 3), 0);
        h.tick(8, 0, 0);
        due("the latest", h.block(0, 3), 1);
        idle(h, 1);
        due("none in the latest tick", h.block(0, 3), NONE);
        idle(h, 1);
        h.tick(0, 0, 0);
        due("one that is sent again", h.block(0, 3), 0);
        h.renew();
        due("no tick since", h.block(0, 3), 0);
        House dropped = plainHouse();
        giveAll(dropped, 3);
        for (int i = 0; i < 9; i++) {
            dropped.tick(8, 0, 1);
        }
        dueAll("one that is DROPPED with this tick", new int[] {dropped.world(5), dropped.block(0, -1)}, 1, 8);
    }

    private static void sizesOfBlocks() {
        House h = plainHouse();
        giveAll(h, 120, 120);
        give(h, 1, 0, 1, 0);
        h.tick(5, 250, 0);
        dueAll("5 and 250", new int[] {h.block(0, -1), h.block(1, -1)}, 5, 250);
    }

    private static void noSuchByte() {
        House h = plainHouse();
        dueAll("no tick yet", new int[] {h.block(0, -1), h.block(1, 0)}, NONE, NONE);
        giveAll(h, 3);
        h.tick(10, 0, 0);
        due("the last", h.block(0, 9), 0);
        int[][] none = {{0, 10}, {0, -2}, {0, LEAST}, {0, MOST}, {1, -1}, {1, 0}, {2, -1}, {2, 0}, {-1, -1}, {-1, 0},
            {LEAST, 0}, {MOST, 0}};
        for (int[] c : none) {
            due("block" + Arrays.toString(c), h.block(c[0], c[1]), NONE);
        }
    }

    private static void whatASenderTells() {
        House h = plainHouse();
        giveAll(h, 30, 10);
        h.tick(24, 0, 0);
        dueAll("A, S, KEPT, WAITING, AGAIN, POLL, FAILED", senderAsked(h, 0, 0, upTo(7)), 0, 1, 2, 31 + 11 - 20, 0, 0, 0);
        h.tick(50, 0, GONE_0);
        dueAll("the POLL timer", senderAsked(h, 0, 0, upTo(7)), 0, 2, 2, 0, 0, 10, 0);
        idle(h, 9);
        due("its last tick", h.sender(0, 0, POLL_TIMER), 1);
        idle(h, 1);
        dueAll("it doesn't run; piece 0 is in AGAIN", senderAsked(h, 0, 0, upTo(7)), 0, 2, 2, 0, 20, 0, 0);
        for (int tries = 2; tries <= 5; tries++) {
            h.tick(24, 0, GONE_0);
            idle(h, 10);
        }
        due("FAILED", h.sender(0, 0, FAILED), 1);
    }

    private static void whatASenderCounts() {
        House h = lostPiece(9);
        dueAll("one piece", senderAsked(h, 0, 0, 7, 8, 9, 10, 11), -250 + 250 - 14, 1, 0, 0, 1);
        h.tick(9, 0, 0);
        h.tick(20, 20, 0);
        dueAll("two PARTS again, a STATUS", senderAsked(h, 0, 0, 7, 8, 9, 10, 11), -14 - 9 - 11, 3, 2, 1, 1);
        dueAll("what goes off at peer 1", senderAsked(h, 1, 0, 7, 8, 9, 10, 11), -4, 0, 0, 0, 0);
        h.renew();
        dueAll("a renewal leaves them", senderAsked(h, 0, 0, 7, 8, 9, 10, 11), -34, 3, 2, 1, 1);
    }

    private static void noSuchAskOfASender() {
        House h = new House(2, 1);
        for (int[] c : wrongPlaces()) {
            due("sender" + Arrays.toString(c), h.sender(c[0], c[1], A), NONE);
        }
        for (int what : new int[] {-1, 12, LEAST, MOST}) {
            due("sender(0, 0, " + what + ")", h.sender(0, 0, what), NONE);
        }
    }

    /** Of a house of two bearers. */
    private static int[][] wrongPlaces() {
        return new int[][] {{-1, 0}, {2, 0}, {0, -1}, {0, 2}, {1, 2}, {LEAST, 0}, {MOST, 0}, {0, LEAST}, {0, MOST}};
    }

    private static void whatAReceiverTells() {
        House h = plainHouse();
        giveAll(h, 40);
        h.tick(14, 0, GONE_0);
        h.tick(14, 0, 0);
        dueAll("piece 1 came", receiverAsked(h, 1, 0, upTo(8)), 0, 2, 0, 2, 6, 0, 0, 10);
        idle(h, 6);
        dueAll("WANTED", receiverAsked(h, 1, 0, upTo(8)), 0, 2, 2, 2, 0, 0, 1, 10);
        h.tick(0, 20, 0);
        dueAll("a STATUS went", receiverAsked(h, 1, 0, upTo(8)), 0, 2, 2, 2, 0, 5, 0, 10);
        h.tick(14, 0, 0);
        dueAll("both are HANDED", receiverAsked(h, 1, 0, upTo(8)), 2, 2, 2, 2, 0, 4, 0, 0);
    }

    private static void whatAReceiverCounts() {
        House h = plainHouse();
        giveAll(h, 9);
        h.tick(20, 20, GONE_1);
        dueAll("a STATUS, DATA", receiverAsked(h, 1, 0, 8, 9, 10), 1, 1, 0);
        idle(h, 9);
        h.tick(20, 20, 0);
        dueAll("an old one", receiverAsked(h, 1, 0, 8, 9, 10), 2, 2, 1);
        House same = lostPiece(9);
        same.tick(9, 0, 0);
        same.tick(20, 0, GONE_0);
        idle(same, 9);
        same.tick(9, 0, 0);
        dueAll("no byte that hadn't come", receiverAsked(same, 1, 0, 8, 9, 10), 0, 2, 1);
        same.tick(20, 0, 0);
        dueAll("six that hadn't", receiverAsked(same, 1, 0, 8, 9, 10), 0, 3, 1);
        same.renew();
        dueAll("a renewal leaves them", receiverAsked(same, 1, 0, 8, 9, 10), 0, 3, 1);
    }

    private static void pollsWithout() {
        House h = plainHouse();
        due("at first", h.receiver(1, 0, POLLS), NONE);
        giveAll(h, 3);
        h.tick(8, 0, GONE_0);
        giveAll(h, 3);
        h.tick(8, 0, 0);
        due("1", h.receiver(1, 0, POLLS), 1);
        idle(h, 6);
        due("none any more", h.receiver(1, 0, POLLS), NONE);
        House zero = lostPiece(9);
        zero.tick(9, 0, 0);
        due("0 is not none", zero.receiver(1, 0, POLLS), 0);
    }

    private static void noSuchAskOfAReceiver() {
        House h = new House(2, 1);
        for (int[] c : wrongPlaces()) {
            due("receiver" + Arrays.toString(c), h.receiver(c[0], c[1], R), NONE);
        }
        for (int what : new int[] {-1, 12, LEAST, MOST}) {
            due("receiver(0, 0, " + what + ")", h.receiver(0, 0, what), NONE);
        }
    }

    private static void whatDeliveredTells() {
        House h = plainHouse();
        giveAll(h, 120, 1, 5);
        h.tick(250, 0, GONE_0);
        dueAll("nothing came", deliveredAsked(h, 1, 0, NEXT, BYTES, DOUBLES, STORED), 0, 0, 0, 0);
        h.renew();
        h.tick(2 + 2 + 1 + 2 + 121, 0, 0);
        h.tick(6, 0, GONE_0);
        h.tick(20, 0, 0);
        dueAll("a unit of 120 bytes", deliveredAsked(h, 1, 0, NEXT, BYTES, DOUBLES, STORED), 1, 120, 0, 0);
        h.renew();
        dueAll("unit 2 is STORED", deliveredAsked(h, 1, 0, NEXT, BYTES, DOUBLES, STORED), 1, 120, 0, 1);
        h.tick(250, 0, 0);
        dueAll("units 0 and 2 are DOUBLES", deliveredAsked(h, 1, 0, NEXT, BYTES, DOUBLES, STORED), 3, 126, 2, 0);
        dueAll("none at peer 0", deliveredAsked(h, 0, 0, NEXT, BYTES, DOUBLES, STORED), 0, 0, 0, 0);
    }

    private static void sumsWrap() {
        House h = plainHouse();
        due("0 at first", h.delivered(1, 0, SUM), 0);
        int sum = 0;
        for (int i = 0; i < 6; i++) {
            give(h, 0, 0, 1 + 20 * i, 250);
            h.tick(250, 250, 0);
            sum = sumOf(sum, row(1 + 20 * i, 250));
            due("sum", h.delivered(1, 0, SUM), sum);
            idle(h, 5);
        }
        House one = plainHouse();
        give(one, 0, 0, 1, 200);
        one.tick(250, 0, 0);
        due("31 * (31 * 0 + 1) + 200", one.delivered(1, 0, SUM), 231);
        due("not at the other peer", one.delivered(0, 0, SUM), 0);
    }

    private static void latestAheadOfAny() {
        House h = plainHouse();
        dueAll("ahead of any", deliveredAsked(h, 1, 0, upTo(6)), 0, 0, 0, 0, 0, 0);
        giveAll(h, 120, 1);
        h.tick(250, 0, 0);
        dueAll("two units", deliveredAsked(h, 1, 0, NEXT, BYTES, LATEST), 2, 121, 1);
    }

    private static void noSuchAskOfDelivered() {
        House h = new House(2, 1);
        for (int[] c : wrongPlaces()) {
            due("delivered" + Arrays.toString(c), h.delivered(c[0], c[1], NEXT), NONE);
        }
        for (int what : new int[] {-1, 6, LEAST, MOST}) {
            due("delivered(0, 0, " + what + ")", h.delivered(0, 0, what), NONE);
        }
    }

    private static void latestUnit() {
        House h = plainHouse();
        give(h, 0, 0, 120, 7);
        give(h, 0, 0, 2, 90);
        h.tick(250, 0, 0);
        dueAll("the latest of two in a tick", new int[] {h.unit(1, 0, 0), h.unit(1, 0, 1), h.unit(1, 0, 2)}, 90, 91, NONE);
        h.renew();
        due("a renewal leaves it", h.unit(1, 0, 0), 90);
    }

    private static void noSuchUnit() {
        House h = new House(2, 1);
        due("ahead of any", h.unit(1, 0, 0), NONE);
        give(h, 0, 0, 120, 7);
        h.tick(250, 0, 0);
        dueAll("first and last", new int[] {h.unit(1, 0, 0), h.unit(1, 0, 119)}, 7, 126);
        for (int i : new int[] {-1, 120, LEAST, MOST}) {
            due("unit(1, 0, " + i + ")", h.unit(1, 0, i), NONE);
        }
        for (int[] c : wrongPlaces()) {
            due("unit" + Arrays.toString(c), h.unit(c[0], c[1], 0), NONE);
        }
        dueAll("none came there", new int[] {h.unit(0, 0, 0), h.unit(1, 1, 0)}, NONE, NONE);
    }

    private static void sendingsFrom0To2() {
        House h = plainHouse();
        giveAll(h, 3);
        due("empty", h.process(0, 1, 0), 0);
        int[] sendings = new int[9];
        for (int i = 0; i < 9; i++) {
            h.tick(8, 0, 1);
            sendings[i] = h.process(0, 1, 0);
        }
        dueAll("in ticks 1 to 9", sendings, 1, 1, 1, 1, 2, 2, 2, 2, 0);
        due("peer 1 has its own", h.process(1, 1, 0), 0);
    }

    private static void sizeAndWhetherCome() {
        House h = plainHouse();
        giveAll(h, 3);
        h.tick(250, 0, 1);
        dueAll("lost", new int[] {h.process(0, 1, 1), h.process(0, 1, 2)}, 250, 0);
        idle(h, 3);
        h.tick(0, 0, 4);
        dueAll("came", new int[] {h.process(0, 1, 1), h.process(0, 1, 2)}, 250, 1);
        idle(h, 3);
        h.tick(0, 0, 0);
        dueAll("empty", new int[] {h.process(0, 1, 0), h.process(0, 1, 2)}, 0, 0);
    }

    private static void noSuchProcess() {
        House h = plainHouse();
        giveAll(h, 3);
        h.tick(8, 0, 1);
        int[][] none = {{-1, 1, 0}, {2, 1, 0}, {0, -1, 0}, {0, 4, 0}, {0, 1, -1}, {0, 1, 3}, {LEAST, 1, 0}, {MOST, 1, 0},
            {0, LEAST, 0}, {0, MOST, 0}, {0, 1, LEAST}, {0, 1, MOST}};
        for (int[] c : none) {
            due("process" + Arrays.toString(c), h.process(c[0], c[1], c[2]), NONE);
        }
        dueAll("0 and 3 are there", new int[] {h.process(0, 0, 0), h.process(1, 3, 0)}, 0, 0);
    }

    private static void worldCountsSendings() {
        House h = plainHouse();
        giveAll(h, 3);
        h.tick(8, 0, 15);
        dueAll("peer 1 sent nothing, so nothing of it is lost or turned", new int[] {h.world(2), h.world(3), h.world(4)},
            1, 1, 1);
        give(h, 1, 0, 3, 0);
        h.tick(0, 8, 8);
        idle(h, 3);
        h.tick(0, 0, 2);
        dueAll("each SENDING; one that had come is lost, too", new int[] {h.world(2), h.world(3), h.world(4)}, 3, 2, 2);
    }

    private static void worldCountsTicks() {
        House h = plainHouse();
        dueAll("at first", new int[] {h.world(0), h.world(1)}, 0, 0);
        idle(h, 300);
        h.tick(251, 0, 0);
        h.renew();
        dueAll("300 ticks", new int[] {h.world(0), h.world(1)}, 300, 1);
    }

    private static void worldCountsParts() {
        House h = plainHouse();
        giveAll(h, 120, 119);
        h.tick(250, 250, 0);
        dueAll("two PARTS of DATA and a STATUS", new int[] {h.world(5), h.world(6)}, 0, 3);
        giveAll(h, 3);
        for (int i = 0; i < 9; i++) {
            h.tick(8, 0, 1);
        }
        dueAll("a block DROPPED, not worked on", new int[] {h.world(5), h.world(6)}, 1, 3);
    }

    private static void noSuchWhat() {
        House h = plainHouse();
        for (int what : new int[] {-1, 7, 8, LEAST, MOST}) {
            due("world(" + what + ")", h.world(what), NONE);
        }
    }
}
