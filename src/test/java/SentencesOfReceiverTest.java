/** The document's Terms on a RECEIVER and on what is HANDED: a test for each sentence that names an edge. */
public final class SentencesOfReceiverTest extends Bench {
    private static final String TERMS = "Terms";

    public static void main(String[] args) {
        pieces();
        packets();
        reports();
        finish();
    }

    private static void pieces() {
        of(TERMS, "A RECEIVER has R (the lowest piece that is not WHOLE: its end known, all bytes come),",
            SentencesOfReceiverTest::wholeWithItsEnd);
        of(TERMS, "H (one above the highest that something came of), MS, X, all 0 at first.",
            SentencesOfReceiverTest::highestOfWhichSomethingCame);
        of(TERMS, "DATA that come: the number is meant from R to R + 63; if it is R + 32 or more, it is an old one: all is"
            + " left,", SentencesOfReceiverTest::oldDataAreLeft);
        of(TERMS, "but with POLL a STATUS is WANTED.", SentencesOfReceiverTest::oldDataWithPoll);
        of(TERMS, "Else, in this order: bytes that hadn't come are there,",
            SentencesOfReceiverTest::onlyBytesThatHadNotCome);
        of(TERMS, "with what is told of packets' beginnings and ends;", SentencesOfReceiverTest::beginningsAndEnds);
        of(TERMS, "MS goes on while that piece is WHOLE;", SentencesOfReceiverTest::msGoesOnWhileWhole);
        of(TERMS, "R likewise, and each piece that it passes is HANDED", SentencesOfReceiverTest::rPassesAllThatAreWhole);
        of(TERMS, "(MS is R at least);", SentencesOfReceiverTest::msIsRAtLeast);
        of(TERMS, "if the REORDER timer runs and X is not above R, it stops;",
            SentencesOfReceiverTest::stopsIfXIsNotAboveR);
        of(TERMS, "if it doesn't run and H is above R, it runs, 6, and X is H;",
            SentencesOfReceiverTest::runsIfHIsAboveR);
        of(TERMS, "with POLL: POLLS is this number.", SentencesOfReceiverTest::pollsIsTheNumber);
        of(TERMS, "Whenever POLLS is below MS: a STATUS is WANTED, and POLLS is none.",
            SentencesOfReceiverTest::pollsBelowMs);
    }

    private static void packets() {
        of(TERMS, "HANDED: byte by byte; one that is the first of a packet begins it (what was begun is gone),",
            SentencesOfReceiverTest::firstByteBegins);
        of(TERMS, "others come behind, or are left if none is begun;", SentencesOfReceiverTest::leftIfNoneIsBegun);
        of(TERMS, "with its last byte the packet is there:", SentencesOfReceiverTest::thereWithItsLastByte);
        of(TERMS, "128 or more: a unit, its COUNT meant from NEXT - 32 to NEXT + 31 (NEXT is 0 at first):",
            SentencesOfReceiverTest::countsAroundNext);
        of(TERMS, "below NEXT,", SentencesOfReceiverTest::belowNextIsADouble);
        of(TERMS, "or STORED already, it is a DOUBLE;", SentencesOfReceiverTest::storedIsADouble);
        of(TERMS, "else it is deciphered (by the KEY of now) and STORED;", SentencesOfReceiverTest::keyOfNow);
        of(TERMS, "while NEXT is STORED it is DELIVERED (and STORED no more), and NEXT goes on.",
            SentencesOfReceiverTest::deliveredInOrder);
    }

    private static void reports() {
        of(TERMS, "Else a REPORT (of the other peer's RECEIVER): bytes NEXT >> 8 & 63 and NEXT & 255,",
            SentencesOfReceiverTest::reportWithoutBits);
        of(TERMS, "and bits (the highest of a byte first, 0s up to a whole byte),",
            SentencesOfReceiverTest::bitsUpToAWholeByte);
        of(TERMS, "the i-th, from 0, for NEXT + 1 + i, up to the highest that is STORED: 1 if it is.",
            SentencesOfReceiverTest::bitsForWhatIsStored);
        of(TERMS, "RECEIVER(p, b) tells it to SENDER(p, b): KEPT units with COUNTS below NEXT,",
            SentencesOfReceiverTest::belowNextIsConfirmed);
        of(TERMS, "and those with a 1, are confirmed.", SentencesOfReceiverTest::unitsWithA1AreConfirmed);
        of(TERMS, "A unit that is confirmed is KEPT no more, and if its packet is WAITING, and no byte of it gone, it is"
            + " taken out.", SentencesOfReceiverTest::takenOutIfNoByteIsGone);
    }

    /** Pieces of five bytes; the faults of each tick tell which ones come. */
    private static House pieces(int... faults) {
        House h = plainHouse();
        giveAll(h, 119);
        for (int f : faults) {
            h.tick(9, 0, f);
        }
        return h;
    }

    private static void wholeWithItsEnd() {
        House h = lostPiece(5);
        h.tick(9, 0, 0);
        dueAll("four of six bytes", receiverAsked(h, 1, 0, R, H, HELD), 0, 1, 4);
        h.tick(6, 0, GONE_0);
        h.tick(6, 0, 0);
        dueAll("its end is known, a byte is missing", receiverAsked(h, 1, 0, R, HELD), 0, 5);
        House all = lostPiece(5);
        all.tick(9, 0, 0);
        all.tick(6, 0, 0);
        dueAll("five bytes, the end isn't known", receiverAsked(all, 1, 0, R, HELD), 0, 5);
        all.tick(6, 0, 0);
        dueAll("WHOLE", receiverAsked(all, 1, 0, R, HELD), 1, 0);
    }

    private static void highestOfWhichSomethingCame() {
        House h = plainHouse();
        dueAll("at first", receiverAsked(h, 1, 0, R, H, MS, X), 0, 0, 0, 0);
        House holes = pieces(GONE_0, GONE_0, 1, 0);
        due("above piece 3", holes.receiver(1, 0, H), 4);
        idle(holes, 2);
        holes.tick(0, 0, 0);
        dueAll("piece 2 comes late", receiverAsked(holes, 1, 0, H, DATA_CAME), 4, 2);
        House part = lostPiece(5);
        part.tick(6, 0, 0);
        due("a byte of piece 0", part.receiver(1, 0, H), 1);
    }

    /** Piece 0 came, its STATUS is gone; with tick 11, the next one, the POLL timer brings it to AGAIN. */
    private static House oldPieceSoon() {
        House h = plainHouse();
        giveAll(h, 9);
        h.tick(20, 20, GONE_1);
        dueAll("it came", receiverAsked(h, 1, 0, R, WANTED, DATA_CAME, IN_VAIN), 1, 0, 1, 0);
        idle(h, 9);
        return h;
    }

    private static void oldDataAreLeft() {
        House h = oldPieceSoon();
        h.tick(9, 20, GONE_1);
        dueAll("POLL, whose STATUS is gone", air(h, 0, 2, 4), 128 + 64 + 32 + 8, 0);
        h.tick(9, 0, 0);
        dueAll("no POLL", air(h, 0, 2, 4), 128 + 64 + 16 + 8, 0);
        dueAll("all is left", receiverAsked(h, 1, 0, R, H, MS, X, REORDER, WANTED, HELD, POLLS), 1, 1, 1, 0, 0, 0, 0, NONE);
        dueAll("they count", receiverAsked(h, 1, 0, DATA_CAME, IN_VAIN), 3, 2);
        due("delivered once", h.delivered(1, 0, NEXT) + h.delivered(1, 0, DOUBLES), 1);
        House late = oldPieceAmongNewOnes();
        idle(late, 1);
        dueAll("while POLLS and the REORDER timer stand", receiverAsked(late, 1, 0, R, H, MS, X, REORDER, POLLS),
            1, 3, 1, 3, 4, 2);
        House later = oldPieceAmongNewOnes();
        later.tick(0, 0, 1);
        idle(later, 4);
        dueAll("when the REORDER timer has run", receiverAsked(later, 1, 0, R, H, MS, X, REORDER, DATA_CAME),
            1, 3, 3, 3, 0, 3);
    }

    /**
     * Piece 0, which has come, goes again in tick 11, but is lost; it is sent again in ticks 15, the next one, and 19.
     * Piece 1 is gone, piece 2 came in tick 13, with POLL.
     */
    private static House oldPieceAmongNewOnes() {
        House h = oldPieceSoon();
        h.tick(20, 0, 1);
        giveAll(h, 3);
        h.tick(8, 0, GONE_0);
        giveAll(h, 3);
        h.tick(8, 0, 0);
        idle(h, 1);
        dueAll("piece 2 came", receiverAsked(h, 1, 0, R, H, MS, X, REORDER, POLLS), 1, 3, 1, 3, 5, 2);
        return h;
    }

    private static void oldDataWithPoll() {
        House h = oldPieceSoon();
        h.tick(20, 0, 0);
        dueAll("POLL in an old one", air(h, 0, 2, 4), 128 + 32, 0);
        dueAll("WANTED, and POLLS none", receiverAsked(h, 1, 0, WANTED, POLLS, R, H), 1, NONE, 1, 1);
        h.tick(0, 20, 0);
        due("so the piece is confirmed at last", h.sender(0, 0, A), 1);
    }

    /** Bytes 0 to 3 of a piece came; the POLL timer brings it all again. */
    private static void onlyBytesThatHadNotCome() {
        House h = lostPiece(9);
        h.tick(9, 0, 0);
        h.tick(20, 0, GONE_0);
        due("four came", h.receiver(1, 0, HELD), 4);
        idle(h, 9);
        h.tick(8, 0, 0);
        dueAll("three of them come again", receiverAsked(h, 1, 0, HELD, DATA_CAME, IN_VAIN), 4, 2, 1);
        h.tick(8, 0, 0);
        dueAll("the fourth, and two more", receiverAsked(h, 1, 0, HELD, DATA_CAME, IN_VAIN), 6, 3, 1);
        h.tick(20, 0, 0);
        dueAll("the rest", receiverAsked(h, 1, 0, R, HELD, DATA_CAME, IN_VAIN), 1, 0, 4, 1);
        due("byte for byte", h.delivered(1, 0, SUM), sumOf(0, row(9, 0)));
    }

    /** Three packets of 2, 3 and 4 bytes in one field, which comes again byte by byte. */
    private static void beginningsAndEnds() {
        House h = lostPiece(1, 2, 3);
        for (int i = 0; i < 9; i++) {
            h.tick(6, 0, 0);
        }
        int sum = sumOf(sumOf(sumOf(0, row(1, 0)), row(2, 0)), row(3, 0));
        dueAll("byte by byte", deliveredAsked(h, 1, 0, NEXT, SUM), 3, sum);
        House cut = plainHouse();
        giveAll(cut, 1, 2, 3);
        for (int i = 0; i < 3; i++) {
            cut.tick(9, 0, 0);
        }
        dueAll("in pieces with LENGTHS", deliveredAsked(cut, 1, 0, NEXT, SUM), 3, sum);
    }

    /** Piece 0 is gone; 2 is late, and comes in tick 11, when MS stands at it. */
    private static void msGoesOnWhileWhole() {
        House h = pieces(GONE_0, 0, 1, 0);
        idle(h, 2);
        h.tick(0, 0, 1);
        idle(h, 1);
        dueAll("the REORDER timer has ended", receiverAsked(h, 1, 0, R, MS, H), 0, 2, 4);
        idle(h, 2);
        h.tick(0, 0, 0);
        dueAll("pieces 2 and 3 are WHOLE", receiverAsked(h, 1, 0, R, MS, H), 0, 4, 4);
    }

    private static void rPassesAllThatAreWhole() {
        House h = plainHouse();
        giveAll(h, 4, 4, 4, 4);
        h.tick(9, 0, 1);
        h.tick(9, 0, 0);
        h.tick(9, 0, 0);
        dueAll("piece 0 is missing", receiverAsked(h, 1, 0, R, HELD), 0, 10);
        due("so nothing is HANDED", h.delivered(1, 0, NEXT), 0);
        idle(h, 1);
        h.tick(0, 0, 0);
        dueAll("R passes 0, 1 and 2", receiverAsked(h, 1, 0, R, HELD), 3, 0);
        due("they are HANDED", h.delivered(1, 0, NEXT), 3);
    }

    private static void msIsRAtLeast() {
        House h = plainHouse();
        giveAll(h, 4, 4, 4);
        h.tick(9, 0, 1);
        h.tick(9, 0, 0);
        dueAll("MS stands at piece 0", receiverAsked(h, 1, 0, R, MS), 0, 0);
        idle(h, 2);
        h.tick(0, 0, 0);
        dueAll("it goes with R", receiverAsked(h, 1, 0, R, MS), 2, 2);
    }

    private static void stopsIfXIsNotAboveR() {
        House equal = pieces(1, 0);
        dueAll("X is 2", receiverAsked(equal, 1, 0, X, REORDER), 2, 6);
        idle(equal, 2);
        equal.tick(0, 0, 0);
        dueAll("R is 2: it stops, and doesn't run", receiverAsked(equal, 1, 0, R, H, X, REORDER), 2, 2, 2, 0);
        House last = pieces(1);
        idle(last, 2);
        last.tick(9, 0, 0);
        last.tick(0, 0, 1);
        idle(last, 3);
        due("its last tick comes", last.receiver(1, 0, REORDER), 2);
        last.tick(0, 0, 0);
        dueAll("it stops in it, too", receiverAsked(last, 1, 0, R, X, REORDER), 2, 2, 0);
        House above = pieces(1, GONE_0, 0);
        dueAll("X is 3", receiverAsked(above, 1, 0, X, REORDER), 3, 6);
        idle(above, 1);
        above.tick(0, 0, 0);
        dueAll("R is 1: it runs on", receiverAsked(above, 1, 0, R, H, X, REORDER), 1, 3, 3, 4);
        House anew = pieces(1, 0, GONE_0, 0);
        dueAll("X is 2, H is 4", receiverAsked(anew, 1, 0, X, H, REORDER), 2, 4, 4);
        anew.tick(0, 0, 0);
        dueAll("R is 2: it stops, and runs from 6", receiverAsked(anew, 1, 0, R, H, X, REORDER), 2, 4, 4, 6);
    }

    private static void runsIfHIsAboveR() {
        House order = pieces(0, 0);
        dueAll("H is R", receiverAsked(order, 1, 0, R, H, X, REORDER), 2, 2, 0, 0);
        House h = pieces(0, GONE_0, 0);
        dueAll("H is above R", receiverAsked(h, 1, 0, R, H, X, REORDER), 1, 3, 3, 6);
        h.tick(9, 0, 0);
        dueAll("it runs already", receiverAsked(h, 1, 0, H, X, REORDER), 4, 3, 5);
        House part = lostPiece(5);
        part.tick(6, 0, 0);
        dueAll("a part of piece R", receiverAsked(part, 1, 0, R, H, X, REORDER), 0, 1, 1, 6);
    }

    private static void pollsIsTheNumber() {
        House h = pieces(GONE_0, 0, 0);
        due("no POLL", h.receiver(1, 0, POLLS), NONE);
        h.tick(9, 0, 0);
        dueAll("POLL in piece 3", receiverAsked(h, 1, 0, POLLS, WANTED), 3, 0);
        h.tick(9, 0, 0);
        dueAll("no POLL in piece 4", receiverAsked(h, 1, 0, POLLS, H), 3, 5);
        House each = plainHouse();
        for (int i = 0; i < 4; i++) {
            giveAll(each, 4);
            each.tick(9, 0, i == 0 ? GONE_0 : 0);
            due("POLL in piece " + i, each.receiver(1, 0, POLLS), i == 0 ? NONE : i);
        }
    }

    private static void pollsBelowMs() {
        House at = plainHouse();
        giveAll(at, 4);
        at.tick(9, 0, 0);
        dueAll("at once", receiverAsked(at, 1, 0, MS, POLLS, WANTED), 1, NONE, 1);
        House equal = lostPiece(9);
        equal.tick(9, 0, 0);
        dueAll("POLLS is MS", receiverAsked(equal, 1, 0, MS, POLLS, WANTED), 0, 0, 0);
        equal.tick(9, 0, 0);
        dueAll("still", receiverAsked(equal, 1, 0, MS, POLLS, WANTED), 0, 0, 0);
        House late = plainHouse();
        giveAll(late, 4, 4);
        late.tick(9, 0, 1);
        late.tick(9, 0, 0);
        dueAll("POLLS is above MS", receiverAsked(late, 1, 0, MS, POLLS, WANTED), 0, 1, 0);
        idle(late, 2);
        late.tick(0, 0, 0);
        dueAll("DATA without POLL move MS", receiverAsked(late, 1, 0, MS, POLLS, WANTED), 2, NONE, 1);
    }

    private static void firstByteBegins() {
        House h = plainHouse();
        giveAll(h, 9, 3);
        h.tick(9, 0, 0);
        due("a packet is begun", h.receiver(1, 0, R), 1);
        h.renew();
        h.tick(40, 0, 0);
        int sum = sumOf(sumOf(0, row(9, 0)), row(3, 0));
        dueAll("it begins anew behind the renewal", deliveredAsked(h, 1, 0, NEXT, DOUBLES, SUM), 2, 0, sum);
    }

    /** Units 0 and 1 of 8 bytes; piece 0, with the first bytes of unit 0, is gone. */
    private static void leftIfNoneIsBegun() {
        House h = plainHouse();
        giveAll(h, 7, 7);
        h.tick(9, 0, GONE_0);
        h.tick(40, 0, 0);
        h.renew();
        dueAll("the rest of unit 0 is left, unit 1 is STORED", deliveredAsked(h, 1, 0, NEXT, STORED, DOUBLES), 0, 1, 0);
        h.tick(40, 0, 0);
        dueAll("both are right", deliveredAsked(h, 1, 0, NEXT, SUM), 2, sumOf(sumOf(0, row(7, 0)), row(7, 0)));
    }

    private static void thereWithItsLastByte() {
        House h = plainHouse();
        giveAll(h, 7);
        h.tick(11, 0, 0);
        dueAll("seven of eight bytes", deliveredAsked(h, 1, 0, NEXT, STORED), 0, 0);
        h.tick(5, 0, 0);
        dueAll("the eighth", deliveredAsked(h, 1, 0, NEXT, SUM), 1, sumOf(0, row(7, 0)));
    }

    /** So many units delivered and confirmed; no timer runs. */
    private static House houseWithNext(int count) {
        House h = plainHouse();
        for (int i = 0; i < count; i++) {
            giveAll(h, 1);
            if (i % 24 == 23 || i == count - 1) {
                h.tick(250, 250, 0);
                idle(h, 5);
            }
        }
        due("all confirmed", h.sender(0, 0, KEPT), 0);
        return h;
    }

    /** NEXT is 62: unit 62 is gone, 63 to 65 are STORED as the link is made anew. */
    private static void countsAroundNext() {
        House h = houseWithNext(62);
        giveAll(h, 1, 1, 1, 1);
        h.tick(6, 0, GONE_0);
        h.tick(40, 0, 0);
        h.renew();
        dueAll("63, 64 and 65 are above NEXT", deliveredAsked(h, 1, 0, NEXT, STORED, DOUBLES), 62, 3, 0);
        h.tick(40, 0, 0);
        dueAll("62 comes, and the others again, which are below NEXT", deliveredAsked(h, 1, 0, NEXT, STORED, DOUBLES),
            66, 0, 3);
        House far = plainHouse();
        for (int i = 0; i < 24; i++) {
            giveAll(far, 1);
        }
        far.tick(6, 0, GONE_0);
        far.tick(250, 0, 0);
        far.renew();
        dueAll("0 at first: up to 23 above", deliveredAsked(far, 1, 0, NEXT, STORED, DOUBLES), 0, 23, 0);
        far.tick(250, 0, 0);
        far.renew();
        far.tick(250, 0, 0);
        dueAll("all 24 below", deliveredAsked(far, 1, 0, NEXT, STORED, DOUBLES), 24, 0, 23 + 24);
    }

    private static void belowNextIsADouble() {
        House h = plainHouse();
        giveAll(h, 3, 3);
        h.tick(8, 0, 0);
        h.tick(8, 0, GONE_0);
        dueAll("unit 0 came", deliveredAsked(h, 1, 0, NEXT, DOUBLES), 1, 0);
        h.renew();
        h.tick(40, 0, 0);
        dueAll("unit 0 is below NEXT, unit 1 is NEXT", deliveredAsked(h, 1, 0, NEXT, DOUBLES), 2, 1);
        due("a DOUBLE adds nothing", h.delivered(1, 0, BYTES), 6);
    }

    /** Unit 0 is gone two times, unit 1 comes two times. */
    private static void storedIsADouble() {
        House h = plainHouse();
        give(h, 0, 0, 3, 10);
        give(h, 0, 0, 3, 20);
        h.tick(8, 0, GONE_0);
        h.tick(8, 0, 0);
        h.renew();
        dueAll("STORED", deliveredAsked(h, 1, 0, NEXT, STORED, DOUBLES), 0, 1, 0);
        h.tick(2 + 2 + 1 + 2 + 4, 0, GONE_0);
        h.tick(8, 0, 0);
        h.renew();
        dueAll("STORED already", deliveredAsked(h, 1, 0, NEXT, STORED, DOUBLES), 0, 1, 1);
        h.tick(40, 0, 0);
        dueAll("both are right", deliveredAsked(h, 1, 0, NEXT, SUM), 2, sumOf(sumOf(0, row(3, 10)), row(3, 20)));
        House least = allButTheFirst(2);
        least.tick(2 + 2 + 1 + 2 + 2, 0, GONE_0);
        least.tick(6, 0, 0);
        least.renew();
        dueAll("a unit of one byte, too", deliveredAsked(least, 1, 0, NEXT, STORED, DOUBLES), 0, 1, 1);
    }

    private static void keyOfNow() {
        House h = plainHouse();
        give(h, 0, 0, 3, 10);
        give(h, 0, 0, 3, 20);
        h.tick(8, 0, GONE_0);
        h.tick(8, 0, 0);
        due("unit 1 went out in EPOCH 0, and is HANDED ahead of EPOCH 1", h.renew(), 1);
        h.tick(2 + 2 + 1 + 2 + 4, 0, 0);
        dueAll("unit 0 in EPOCH 1", deliveredAsked(h, 1, 0, NEXT, SUM), 2, sumOf(sumOf(0, row(3, 10)), row(3, 20)));
    }

    private static void deliveredInOrder() {
        House h = plainHouse();
        for (int i = 0; i < 4; i++) {
            give(h, 0, 0, 3, 10 * i);
        }
        h.tick(8, 0, GONE_0);
        h.tick(8, 0, 0);
        h.tick(8, 0, GONE_0);
        h.tick(8, 0, 0);
        h.renew();
        dueAll("1 and 3 are STORED", deliveredAsked(h, 1, 0, NEXT, STORED, LATEST), 0, 2, 0);
        h.tick(2 + 2 + 1 + 2 + 4, 0, 0);
        dueAll("0 comes: 0 and 1 are DELIVERED", deliveredAsked(h, 1, 0, NEXT, STORED, BYTES), 2, 1, 6);
        due("1 is the latest", h.unit(1, 0, 0), 10);
        h.tick(40, 0, 0);
        dueAll("2 comes: all are", deliveredAsked(h, 1, 0, NEXT, STORED, BYTES), 4, 0, 12);
        due("3 is the latest", h.unit(1, 0, 0), 30);
    }

    private static void reportWithoutBits() {
        House none = plainHouse();
        none.renew();
        none.tick(20, 0, 0);
        dueAll("NEXT is 0", air(none, 0, 0, 7), 0, 4, 128 + 32, 0, 0, 0, 255);
        House h = houseWithNext(60);
        h.renew();
        h.tick(0, 20, 0);
        dueAll("NEXT is 60", air(h, 1, 0, 7), 0, 4, 128 + 32, 0, 0, 60, 255);
    }

    /** As many units, of one byte each, of which the first is gone; all others are STORED as the link is made anew. */
    private static House allButTheFirst(int units) {
        House h = plainHouse();
        for (int i = 0; i < units; i++) {
            giveAll(h, 1);
        }
        h.tick(6, 0, GONE_0);
        h.tick(250, 0, 0);
        h.renew();
        due("STORED", h.delivered(1, 0, STORED), units - 1);
        return h;
    }

    private static void bitsUpToAWholeByte() {
        House two = allButTheFirst(2);
        two.tick(0, 20, 0);
        dueAll("one bit", air(two, 1, 1, 8), 5, 128 + 32, 0, 0, 0, 128, 255);
        House nine = allButTheFirst(9);
        nine.tick(0, 20, 0);
        dueAll("eight bits", air(nine, 1, 1, 8), 5, 128 + 32, 0, 0, 0, 255, 255);
        House ten = allButTheFirst(10);
        ten.tick(0, 20, 0);
        dueAll("nine bits", air(ten, 1, 1, 9), 6, 128 + 32, 0, 0, 0, 255, 128, 255);
        House all = allButTheFirst(24);
        all.tick(0, 20, 0);
        dueAll("23 bits", air(all, 1, 1, 10), 7, 128 + 32, 0, 0, 0, 255, 255, 254, 255);
        due("all but the first are confirmed", all.sender(0, 0, KEPT), 1);
    }

    /** Units 0, 1 and 3 are gone; 2 and 4 come, each in a piece of its own. */
    private static House everyOtherUnit() {
        House h = plainHouse();
        giveAll(h, 1, 1, 1, 1, 1);
        h.tick(6, 0, GONE_0);
        h.tick(6, 0, GONE_0);
        h.tick(6, 0, 0);
        h.tick(6, 0, GONE_0);
        h.tick(6, 0, 0);
        h.renew();
        due("2 and 4 are STORED", h.delivered(1, 0, STORED), 2);
        return h;
    }

    private static void bitsForWhatIsStored() {
        House h = everyOtherUnit();
        h.tick(0, 20, 0);
        dueAll("for units 1 to 4", air(h, 1, 1, 8), 5, 128 + 32, 0, 0, 0, 64 + 16, 255);
        // A STATUS goes ahead.
        h.tick(4 + 2 + 2 + 1 + 2 + 2, 0, 0);
        h.tick(6, 0, 0);
        due("0 and 1 come, so 3 is NEXT", h.delivered(1, 0, NEXT), 3);
        giveAll(h, 1, 1);
        h.tick(6, 0, GONE_0);
        h.tick(6, 0, GONE_0);
        h.tick(6, 0, 0);
        h.renew();
        due("4 and 6 are STORED", h.delivered(1, 0, STORED), 2);
        h.tick(0, 20, 0);
        dueAll("for units 4 to 6", air(h, 1, 1, 8), 5, 128 + 32, 0, 0, 3, 128 + 32, 255);
    }

    private static void belowNextIsConfirmed() {
        House h = plainHouse();
        giveAll(h, 3, 3, 3);
        h.tick(8, 0, 0);
        h.tick(8, 0, 0);
        h.renew();
        due("NEXT", h.delivered(1, 0, NEXT), 2);
        h.tick(0, 20, 0);
        dueAll("0 and 1 are, 2 is not", senderAsked(h, 0, 0, KEPT, WAITING), 1, 2 + 4);
        due("peer 1's own unit is not told of", give(h, 1, 0, 3, 0), 0);
        h.tick(250, 0, 0);
        due("the REPORT of peer 0 is for SENDER(1, 0)", h.sender(1, 0, KEPT), 1);
        due("unit 2 comes", h.delivered(1, 0, NEXT), 3);
    }

    private static void unitsWithA1AreConfirmed() {
        House h = everyOtherUnit();
        due("all are KEPT", h.sender(0, 0, KEPT), 5);
        h.tick(0, 20, 0);
        dueAll("2 and 4 are confirmed", senderAsked(h, 0, 0, KEPT, WAITING), 3, 2 + 3 * 2);
        h.tick(40, 0, 0);
        dueAll("0, 1 and 3 come; no DOUBLES", deliveredAsked(h, 1, 0, NEXT, DOUBLES), 5, 0);
        House far = plainHouse();
        for (int i = 0; i < 11; i++) {
            giveAll(far, 1);
        }
        for (int i = 0; i < 11; i++) {
            far.tick(6, 0, i < 10 ? GONE_0 : 0);
        }
        far.renew();
        far.tick(0, 20, 0);
        dueAll("a 1 for unit 10, in the second byte", air(far, 1, 4, 8), 0, 0, 0, 64);
        dueAll("it alone is confirmed", senderAsked(far, 0, 0, KEPT, WAITING), 10, 2 + 10 * 2);
        far.tick(60, 0, 0);
        dueAll("the others come", deliveredAsked(far, 1, 0, NEXT, DOUBLES), 11, 0);
        House high = houseWithNext(62);
        giveAll(high, 1, 1, 1);
        high.tick(6, 0, GONE_0);
        high.tick(6, 0, GONE_0);
        high.tick(6, 0, 0);
        high.renew();
        high.tick(0, 20, 0);
        dueAll("NEXT is 62, and a 1 for unit 64", air(high, 1, 4, 7), 0, 62, 64);
        dueAll("it alone is confirmed", senderAsked(high, 0, 0, KEPT, WAITING), 2, 2 + 2 * 2);
    }

    private static void takenOutIfNoByteIsGone() {
        House out = allButTheFirst(2);
        out.tick(0, 20, 0);
        dueAll("no byte is gone", senderAsked(out, 0, 0, KEPT, WAITING), 1, 2 + 2);
        House one = allButTheFirst(2);
        one.tick(2 + 2 + 2 + 2 + 2 + 1, 20, 0);
        dueAll("one byte is gone", senderAsked(one, 0, 0, KEPT, WAITING), 1, 1);
        one.tick(20, 0, 0);
        due("the rest of it goes out", one.delivered(1, 0, DOUBLES), 1);
        one.tick(0, 20, 0);
        dueAll("a STATUS does not confirm it again", senderAsked(one, 0, 0, A, S, KEPT, NEXT_COUNT), 2, 2, 0, 2);
        House all = allButTheFirst(2);
        all.tick(40, 20, 0);
        dueAll("all bytes are gone", senderAsked(all, 0, 0, KEPT, WAITING), 0, 0);
    }
}
