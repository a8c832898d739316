/** The document's Terms on STATUS, on the air and when it comes: a test for each sentence that names an edge. */
public final class SentencesOfStatusTest extends Bench {
    private static final String TERMS = "Terms";

    public static void main(String[] args) {
        onTheAir();
        whenItComes();
        finish();
    }

    private static void onTheAir() {
        of(TERMS, "STATUS on the air: a byte, how many ENTRIES (0 to 15);", SentencesOfStatusTest::entriesFrom0To15);
        of(TERMS, "a byte ACK & 63;", SentencesOfStatusTest::ackOver63);
        of(TERMS, "the entries: a byte number & 63 of a piece of which nothing came;",
            SentencesOfStatusTest::entryOfNothing);
        of(TERMS, "or that + 128, and two bytes: the first and the last of a run of bytes that are missing",
            SentencesOfStatusTest::entriesOfRuns);
        of(TERMS, "(255: up to the end, when the end isn't known).", SentencesOfStatusTest::endIsNotKnown);
        of(TERMS, "RECEIVER goes through the pieces from R on up to below MS that are not WHOLE, in order,",
            SentencesOfStatusTest::onlyBelowMs);
        of(TERMS, "each with its one entry or all its runs in order;", SentencesOfStatusTest::allRunsOrNone);
        of(TERMS, "at the first one all of which don't fit (n bytes, 15 entries) it stops, with ACK that piece;",
            SentencesOfStatusTest::stopsAtTheFirst);
        of(TERMS, "at the first one all of which don't fit (n bytes, 15 entries) it stops, with ACK that piece;",
            SentencesOfStatusTest::stopsAt15Entries);
        of(TERMS, "else ACK is MS.", SentencesOfStatusTest::elseAckIsMs);
        of(TERMS, "Then it is not WANTED, and the PROHIBIT timer runs, 5.", SentencesOfStatusTest::thenNotWanted);
    }

    private static void whenItComes() {
        of(TERMS, "A STATUS that comes: ACK is meant as the number from A to A + 63;", SentencesOfStatusTest::ackFromAOn);
        of(TERMS, "above S all is left.", SentencesOfStatusTest::ackAboveS);
        of(TERMS, "Each piece from A up to below ACK that no entry names is confirmed.",
            SentencesOfStatusTest::belowAckIsConfirmed);
        of(TERMS, "What an entry (meant from A to A + 63, below S,", SentencesOfStatusTest::entryOfAnOldPiece);
        of(TERMS, "of a piece that is not confirmed) names comes to AGAIN;",
            SentencesOfStatusTest::entryOfAConfirmedPiece);
        of(TERMS, "if nothing of that piece was there its TRIES (0 at first) go up by one,",
            SentencesOfStatusTest::manyEntriesAreOneTry);
        of(TERMS, "and if they are 5 the SENDER is FAILED.", SentencesOfStatusTest::failsAtTheFifthTry);
        of(TERMS, "and if they are 5 the SENDER is FAILED.", SentencesOfStatusTest::eachPieceHasItsTries);
        of(TERMS, "A piece that is confirmed has nothing in AGAIN;", SentencesOfStatusTest::confirmedIsNotAgain);
        of(TERMS, "A goes on to the lowest that is not, or S.", SentencesOfStatusTest::lowestThatIsNot);
        of(TERMS, "If POLLED is below ACK", SentencesOfStatusTest::polledBelowAck);
        of(TERMS, "(it is, if it is none) the POLL timer stops.", SentencesOfStatusTest::polledNone);
        of(TERMS, "A unit is confirmed when all bytes of its packet are in pieces that are.",
            SentencesOfStatusTest::allBytesOfAUnit);
    }

    /** Every second byte of a piece is missing, so many runs; it is WHOLE up to its end. STATUS is WANTED. */
    private static House houseWithRuns(int runs) {
        House h = lostPiece(2 * runs);
        for (int i = 0; i <= 2 * runs; i++) {
            h.tick(6, 0, i % 2 == 0 ? 0 : GONE_0);
        }
        dueAll("MS and what came", receiverAsked(h, 1, 0, MS, HELD), runs < 3 ? 0 : 1, runs + 1);
        if (runs < 3) {
            idle(h, 6 - 2 * runs);
        }
        return h;
    }

    private static void entriesFrom0To15() {
        House none = plainHouse();
        giveAll(none, 3);
        none.tick(20, 250, 0);
        dueAll("no entries", air(none, 1, 0, 5), 0, 2, 0, 1, 255);
        House behind = new House(2, 1);
        giveAll(behind, 3);
        behind.tick(8, 0, 0);
        giveAll(behind, 3);
        behind.tick(8, 0, GONE_0);
        give(behind, 1, 1, 3, 0);
        behind.tick(0, 20, 0);
        dueAll("no entries, and bearer 1 behind", air(behind, 1, 0, 6), 0, 2, 0, 1, 1, 6);
        dueAll("its byte is no entry", senderAsked(behind, 0, 0, A, S, AGAIN), 1, 2, 0);
        House h = houseWithRuns(15);
        h.tick(0, 250, 0);
        dueAll("15 entries", air(h, 1, 0, 4), 0, 2 + 45, 15, 1);
        due("all in AGAIN", h.sender(0, 0, AGAIN), 15);
    }

    /** Units go one by one, each in a piece, till piece 63 has been confirmed. */
    private static void ackOver63() {
        House h = plainHouse();
        for (int i = 0; i < 64; i++) {
            giveAll(h, 1);
            h.tick(20, 20, 0);
            if (h.block(1, -1) != NONE) {
                due("ACK behind piece " + i, h.block(1, 3), i + 1 & 63);
            }
        }
        idle(h, 4);
        h.tick(0, 20, 0);
        dueAll("ACK 64", air(h, 1, 1, 4), 2, 0, 0);
        dueAll("is meant", senderAsked(h, 0, 0, A, KEPT), 64, 0);
    }

    /** Pieces of five bytes; the faults of each tick tell which ones come. */
    private static House pieces(int... faults) {
        House h = plainHouse();
        giveAll(h, 119);
        for (int f : faults) {
            h.tick(9, 0, f);
        }
        return h;
    }

    private static void entryOfNothing() {
        House h = pieces(GONE_0, GONE_0, 0);
        idle(h, 5);
        h.tick(0, 20, 0);
        dueAll("pieces 0 and 1", air(h, 1, 0, 7), 0, 4, 2, 3, 0, 1, 255);
        due("all of both in AGAIN", h.sender(0, 0, AGAIN), 10);
    }

    private static void entriesOfRuns() {
        House one = houseWithRuns(1);
        one.tick(0, 20, 0);
        dueAll("a run of one byte", air(one, 1, 0, 8), 0, 5, 1, 1, 128, 1, 1, 255);
        House h = lostPiece(9);
        h.tick(0, 0, 0);
        h.tick(8, 0, GONE_0);
        h.tick(7, 0, 0);
        h.tick(20, 0, GONE_0);
        idle(h, 4);
        h.tick(0, 20, 0);
        dueAll("from the field's first byte on", air(h, 1, 0, 7), 0, 8, 2, 1, 128, 0, 2);
        due("bytes 0 to 2 and 5 to 9 in AGAIN", h.sender(0, 0, AGAIN), 8);
        House first = lostPiece(4);
        for (int i = 0; i < 5; i++) {
            first.tick(6, 0, i == 0 ? GONE_0 : 0);
        }
        idle(first, 2);
        first.tick(0, 20, 0);
        dueAll("the field's first byte alone", air(first, 1, 0, 8), 0, 5, 1, 1, 128, 0, 0, 255);
        House last = lostPiece(9);
        last.tick(0, 0, 0);
        last.tick(9, 0, GONE_0);
        last.tick(20, 0, 0);
        idle(last, 5);
        last.tick(0, 20, 0);
        dueAll("up to the byte ahead of what came", air(last, 1, 0, 8), 0, 5, 1, 1, 128, 0, 3, 255);
    }

    private static void endIsNotKnown() {
        House h = lostPiece(9);
        h.tick(9, 0, 0);
        idle(h, 5);
        h.tick(0, 20, 0);
        dueAll("four bytes came, not the end", air(h, 1, 0, 8), 0, 5, 1, 1, 128, 4, 255, 255);
        due("up to the end in AGAIN", h.sender(0, 0, AGAIN), 6);
        h.tick(20, 0, 0);
        due("then it comes", h.delivered(1, 0, SUM), sumOf(0, row(9, 0)));
        House one = lostPiece(9);
        for (int i = 0; i < 4; i++) {
            one.tick(6, 0, i < 3 ? GONE_0 : 0);
        }
        idle(one, 5);
        one.tick(0, 20, 0);
        dueAll("a byte in the midst came", air(one, 1, 0, 11), 0, 8, 2, 1, 128, 0, 2, 128, 4, 255, 255);
        House most = lostPiece(120, 118);
        most.tick(2 + 3 + 1 + 238, 0, 0);
        idle(most, 5);
        most.tick(0, 20, 0);
        dueAll("of a field of 240", air(most, 1, 0, 8), 0, 5, 1, 1, 128, 238, 255, 255);
        due("two bytes in AGAIN", most.sender(0, 0, AGAIN), 2);
    }

    private static void onlyBelowMs() {
        House h = pieces(GONE_0, 0, GONE_0, 0);
        idle(h, 4);
        dueAll("MS is 2, H is 4", receiverAsked(h, 1, 0, R, MS, H), 0, 2, 4);
        h.tick(0, 20, 0);
        dueAll("nothing of piece 2 yet", air(h, 1, 0, 6), 0, 3, 1, 2, 0, 255);
        due("nothing of it in AGAIN", h.sender(0, 0, AGAIN), 5);
        House from = pieces(0, GONE_0, 0);
        idle(from, 5);
        from.tick(0, 20, 0);
        dueAll("from R on", air(from, 1, 0, 6), 0, 3, 1, 3, 1, 255);
    }

    private static void allRunsOrNone() {
        House exact = houseWithRuns(2);
        exact.tick(0, 2 + 8, 0);
        dueAll("two runs in order", blockOf(exact, 1), 0, 8, 2, 1, 128, 1, 1, 128, 3, 3);
        House less = houseWithRuns(2);
        less.tick(0, 2 + 7, 0);
        dueAll("not one of them alone", air(less, 1, 0, 5), 0, 2, 0, 0, 255);
        due("nothing in AGAIN", less.sender(0, 0, AGAIN), 0);
    }

    /** Piece 0 has two runs missing, of piece 1 nothing came, piece 2 came; MS is 3. */
    private static House houseToStop() {
        House h = houseWithRuns(2);
        giveAll(h, 2, 2);
        h.tick(7, 0, GONE_0);
        h.tick(7, 0, 0);
        idle(h, 6);
        dueAll("MS and WANTED", receiverAsked(h, 1, 0, MS, WANTED), 3, 1);
        return h;
    }

    private static void stopsAtTheFirst() {
        House first = houseToStop();
        first.tick(0, 2 + 7, 0);
        dueAll("piece 0 doesn't fit; piece 1 would", air(first, 1, 0, 5), 0, 2, 0, 0, 255);
        due("nothing is confirmed", first.sender(0, 0, KEPT), 3);
        House second = houseToStop();
        second.tick(0, 2 + 8, 0);
        dueAll("piece 1 doesn't fit", air(second, 1, 0, 4), 0, 8, 2, 1);
        House all = houseToStop();
        all.tick(0, 2 + 9, 0);
        dueAll("all fit", blockOf(all, 1), 0, 9, 3, 3, 128, 1, 1, 128, 3, 3, 1);
        due("piece 2 is confirmed", all.sender(0, 0, KEPT), 2);
    }

    private static void stopsAt15Entries() {
        House runs = houseWithRuns(16);
        runs.tick(0, 250, 0);
        dueAll("16 runs of one piece", air(runs, 1, 0, 5), 0, 2, 0, 0, 255);
        House h = houseWithRuns(15);
        giveAll(h, 2, 2);
        h.tick(7, 0, GONE_0);
        h.tick(7, 0, 0);
        idle(h, 12);
        due("MS", h.receiver(1, 0, MS), 3);
        h.tick(0, 250, 0);
        dueAll("15 runs, and a piece behind them", air(h, 1, 0, 4), 0, 2 + 45, 15, 1);
    }

    private static void elseAckIsMs() {
        House h = pieces(0, 0, GONE_0, 0);
        due("MS stands at the missing piece", h.receiver(1, 0, MS), 2);
        giveAll(h, 1);
        idle(h, 5);
        h.tick(0, 20, 0);
        dueAll("MS is 4", air(h, 1, 0, 6), 0, 3, 1, 4, 2, 255);
        dueAll("A is the missing one", senderAsked(h, 0, 0, A, S), 2, 4);
    }

    private static void thenNotWanted() {
        House h = plainHouse();
        giveAll(h, 3);
        h.tick(20, 0, 0);
        dueAll("ahead of it", receiverAsked(h, 1, 0, WANTED, PROHIBIT, STATUS_MADE), 1, 0, 0);
        h.tick(0, 20, 2);
        dueAll("behind it, though it is lost", receiverAsked(h, 1, 0, WANTED, PROHIBIT, STATUS_MADE), 0, 5, 1);
        idle(h, 4);
        due("the PROHIBIT timer", h.receiver(1, 0, PROHIBIT), 1);
        idle(h, 1);
        due("has run", h.receiver(1, 0, PROHIBIT), 0);
    }

    private static void ackFromAOn() {
        House h = houseWithRuns(16);
        h.tick(0, 250, 0);
        due("ACK 0", h.block(1, 3), 0);
        dueAll("A itself: nothing is confirmed", senderAsked(h, 0, 0, A, KEPT, STATUS_CAME), 0, 1, 1);
        House all = pieces(0, 0, 0, 0);
        all.tick(0, 20, 0);
        dueAll("ACK is S: all is", senderAsked(all, 0, 0, A, S), 4, 4);
    }

    /** A STATUS with ACK 1 is lost in ticks 1 and 5, and comes in tick 9, when A is 2. */
    private static void ackAboveS() {
        House h = plainHouse();
        giveAll(h, 3);
        h.tick(20, 20, 2);
        idle(h, 3);
        h.tick(0, 0, 2);
        giveAll(h, 3);
        h.tick(20, 20, 0);
        dueAll("a later STATUS", senderAsked(h, 0, 0, A, KEPT, STATUS_CAME), 2, 0, 1);
        giveAll(h, 3);
        h.tick(20, 0, GONE_0);
        idle(h, 1);
        due("the late one comes", h.tick(0, 0, 0), 2 + 8);
        dueAll("it counts", senderAsked(h, 0, 0, STATUS_CAME), 2);
        dueAll("nothing else", senderAsked(h, 0, 0, A, S, KEPT, AGAIN, POLL_TIMER), 2, 3, 1, 0, 8);
    }

    private static void belowAckIsConfirmed() {
        House h = plainHouse();
        giveAll(h, 3);
        h.tick(20, 0, 0);
        giveAll(h, 3);
        h.tick(20, 0, GONE_0);
        h.tick(0, 20, 0);
        due("ACK", h.block(1, 3), 1);
        dueAll("piece 0 is, piece 1 is not", senderAsked(h, 0, 0, A, KEPT), 1, 1);
        House named = pieces(GONE_0, 0);
        idle(named, 5);
        named.tick(0, 20, 0);
        dueAll("an entry names piece 0", senderAsked(named, 0, 0, A, S, AGAIN), 0, 2, 5);
        House both = lostPiece(9);
        both.tick(10, 0, 0);
        both.tick(7, 0, GONE_0);
        both.tick(20, 0, 0);
        giveAll(both, 2, 2);
        both.tick(7, 0, GONE_0);
        both.tick(7, 0, 0);
        idle(both, 7);
        both.tick(0, 20, 0);
        dueAll("an entry for a run of piece 0, one for 1", air(both, 1, 0, 8), 0, 6, 2, 3, 128, 5, 6, 1);
        dueAll("0 and 1 are not confirmed, 2 is", senderAsked(both, 0, 0, A, AGAIN, KEPT), 0, 2 + 3, 2);
    }

    /** A STATUS with an entry for piece 0 and ACK 2 comes in tick 16, when A is 2. */
    private static void entryOfAnOldPiece() {
        House h = plainHouse();
        giveAll(h, 3);
        h.tick(20, 0, 1);
        giveAll(h, 3);
        h.tick(20, 0, 0);
        idle(h, 2);
        h.tick(0, 0, 1);
        idle(h, 2);
        h.tick(0, 20, 2);
        dueAll("the STATUS, lost at first", air(h, 1, 0, 5), 0, 3, 1, 2, 0);
        h.tick(0, 0, 0);
        due("piece 0 comes", h.receiver(1, 0, R), 2);
        idle(h, 2);
        h.tick(0, 0, 2);
        h.tick(0, 20, 0);
        dueAll("a later STATUS", senderAsked(h, 0, 0, A, S, AGAIN, STATUS_CAME), 2, 2, 0, 1);
        idle(h, 2);
        due("the late one comes", h.tick(0, 0, 0), 2 + 8);
        dueAll("its entry is of no piece", senderAsked(h, 0, 0, A, S, AGAIN, STATUS_CAME), 2, 2, 0, 2);
        giveAll(h, 3);
        h.tick(20, 0, 0);
        dueAll("a new piece goes", air(h, 0, 2, 4), 128 + 32, 2);
    }

    /** A STATUS with entries for 0 and 1 comes in tick 17; one of tick 16 has confirmed 1. */
    private static void entryOfAConfirmedPiece() {
        House h = pieces(GONE_0, 1, 0);
        idle(h, 2);
        h.tick(0, 0, 1);
        idle(h, 2);
        h.tick(0, 20, 2);
        dueAll("the STATUS, lost at first", air(h, 1, 0, 6), 0, 4, 2, 3, 0, 1);
        h.tick(0, 0, 0);
        due("piece 1 comes", h.receiver(1, 0, HELD), 10);
        idle(h, 2);
        h.tick(0, 0, 2);
        idle(h, 2);
        h.tick(0, 20, 0);
        dueAll("a later STATUS", air(h, 1, 0, 6), 0, 3, 1, 3, 0, 255);
        dueAll("AGAIN", senderAsked(h, 0, 0, AGAIN, STATUS_CAME), 5, 1);
        due("the late one comes", h.tick(0, 0, 0), 2 + 8);
        dueAll("nothing of piece 1 in AGAIN", senderAsked(h, 0, 0, AGAIN, STATUS_CAME), 5, 2);
    }

    private static void manyEntriesAreOneTry() {
        House h = houseWithRuns(15);
        h.tick(0, 250, 0);
        dueAll("15 entries for a piece", senderAsked(h, 0, 0, AGAIN, FAILED), 15, 0);
    }

    /** A STATUS names piece 0 each time, which is lost each time; others come. */
    private static void failsAtTheFifthTry() {
        House h = plainHouse();
        giveAll(h, 3);
        for (int tries = 1; tries <= 5; tries++) {
            h.tick(8, 0, GONE_0);
            dueAll("piece 0 is on its way", senderAsked(h, 0, 0, AGAIN, FAILED), 0, 0);
            giveAll(h, 3);
            h.tick(8, 0, 0);
            idle(h, 5);
            h.tick(0, 250, 0);
            dueAll("a STATUS names it", senderAsked(h, 0, 0, STATUS_CAME, AGAIN, FAILED), tries, 4, tries == 5 ? 1 : 0);
        }
    }

    private static void eachPieceHasItsTries() {
        House h = lostPiece(3);
        for (int piece = 0; piece < 2; piece++) {
            for (int tries = 1; tries < 4; tries++) {
                h.tick(20, 0, GONE_0);
                idle(h, 9);
            }
            h.tick(20, 20, 0);
            dueAll("four tries", senderAsked(h, 0, 0, A, FAILED), piece + 1, 0);
            giveAll(h, 3);
            h.tick(20, 0, GONE_0);
            idle(h, 9);
        }
        due("nine in all", h.sender(0, 0, NOT_NEW), 8);
    }

    /** A STATUS comes in tick 12; in tick 11 the POLL timer has brought its piece to AGAIN. */
    private static void confirmedIsNotAgain() {
        House h = plainHouse();
        giveAll(h, 3);
        h.tick(20, 0, 0);
        idle(h, 2);
        h.tick(0, 20, 2);
        idle(h, 3);
        h.tick(0, 0, 2);
        idle(h, 3);
        due("AGAIN", h.sender(0, 0, AGAIN), 4);
        h.tick(0, 0, 0);
        dueAll("confirmed", senderAsked(h, 0, 0, A, AGAIN, KEPT), 1, 0, 0);
        due("nothing goes again", h.tick(250, 0, 0), 0);
        House late = middlePieceIsLate();
        dueAll("1 is confirmed, 0 and 2 are not", senderAsked(late, 1, 0, A, AGAIN), 0, 10);
        late.tick(0, 9, 0);
        due("piece 0 goes", late.block(1, 3), 0);
        late.tick(0, 9, 0);
        due("then piece 2", late.block(1, 3), 2);
        late.tick(0, 9, 0);
        due("then a new one", late.block(1, 3), 4);
    }

    /** Peer 1's pieces 0 and 2 are gone; 1 comes in tick 10, when a STATUS has just named it. Another confirms it. */
    private static House middlePieceIsLate() {
        House h = plainHouse();
        give(h, 1, 0, 119, 0);
        for (int faults : new int[] {GONE_1, 2, GONE_1, 0}) {
            h.tick(0, 9, faults);
        }
        idle(h, 1);
        h.tick(0, 0, 2);
        idle(h, 3);
        h.tick(20, 0, 0);
        dueAll("0, 1 and 2", air(h, 0, 0, 7), 0, 5, 3, 4, 0, 1, 2);
        dueAll("all in AGAIN, and piece 1 is there", new int[] {h.sender(1, 0, AGAIN), h.receiver(0, 0, HELD)}, 15, 10);
        idle(h, 5);
        h.tick(20, 0, 0);
        return h;
    }

    private static void lowestThatIsNot() {
        House h = pieces(0, GONE_0, 0, 0);
        idle(h, 4);
        h.tick(0, 20, 0);
        due("piece 1 is not", h.sender(0, 0, A), 1);
        h.tick(9, 0, 0);
        due("it comes", h.receiver(1, 0, R), 4);
        for (int i = 0; i < 3; i++) {
            due("A stays without a STATUS", h.sender(0, 0, A), 1);
            h.tick(9, 0, 0);
        }
        h.tick(0, 20, 0);
        dueAll("all are", senderAsked(h, 0, 0, A, S), 7, 7);
    }

    private static void polledBelowAck() {
        House equal = plainHouse();
        giveAll(equal, 3, 3);
        equal.tick(8, 0, GONE_0);
        equal.tick(8, 0, 0);
        idle(equal, 5);
        due("POLLED is 1", equal.sender(0, 0, POLL_TIMER), 5);
        equal.tick(0, 2 + 2, 0);
        dueAll("a STATUS that has no room for an entry", blockOf(equal, 1), 0, 2, 0, 0);
        due("POLLED is above its ACK", equal.sender(0, 0, POLL_TIMER), 4);
        House h = plainHouse();
        giveAll(h, 3, 3);
        h.tick(8, 0, 0);
        h.tick(8, 4, 0);
        dueAll("ACK is 2: the timer stops", senderAsked(h, 0, 0, A, POLL_TIMER), 2, 0);
        House same = plainHouse();
        giveAll(same, 3);
        same.tick(8, 0, 0);
        giveAll(same, 3);
        same.tick(8, 0, GONE_0);
        same.tick(0, 4, 0);
        dueAll("ACK is 1, as POLLED is: it runs on", senderAsked(same, 0, 0, A, POLL_TIMER), 1, 9);
    }

    /**
     * A renewed link: piece 0 is lost, 1 comes, both without POLL; then a REPORT takes out all that waits, so that
     * the next tick starts the POLL timer.
     */
    private static void polledNone() {
        House h = plainHouse();
        giveAll(h, 3, 3, 3);
        h.tick(50, 0, 0);
        due("all came", h.delivered(1, 0, NEXT), 3);
        h.renew();
        h.tick(6, 0, GONE_0);
        h.tick(8, 0, 0);
        h.tick(0, 20, 0);
        dueAll("nothing WAITING, no POLL made", senderAsked(h, 0, 0, S, WAITING, POLL_TIMER), 2, 0, 0);
        idle(h, 1);
        due("the POLL timer runs", h.sender(0, 0, POLL_TIMER), 10);
        idle(h, 3);
        h.tick(0, 2 + 2, 0);
        dueAll("a STATUS with ACK 0", blockOf(h, 1), 0, 2, 0, 0);
        due("stops it", h.sender(0, 0, POLL_TIMER), 0);
    }

    private static void allBytesOfAUnit() {
        House h = plainHouse();
        giveAll(h, 10);
        h.tick(9, 0, GONE_0);
        h.tick(20, 0, 0);
        idle(h, 5);
        h.tick(0, 20, 0);
        dueAll("piece 1 is confirmed, 0 isn't", senderAsked(h, 0, 0, AGAIN, KEPT), 5, 1);
        h.tick(9, 0, 0);
        due("it comes", h.delivered(1, 0, NEXT), 1);
        idle(h, 3);
        h.tick(0, 20, 0);
        dueAll("both are", senderAsked(h, 0, 0, A, KEPT), 2, 0);
        House first = plainHouse();
        giveAll(first, 3);
        first.tick(20, 20, 0);
        giveAll(first, 10);
        first.tick(5, 0, GONE_0);
        first.tick(20, 0, 0);
        idle(first, 5);
        first.tick(0, 20, 0);
        dueAll("all but the first byte", senderAsked(first, 0, 0, AGAIN, KEPT), 1, 1);
        first.renew();
        first.tick(6, 0, GONE_0);
        first.tick(2 + 2 + 10, 0, 0);
        idle(first, 5);
        first.tick(0, 2 + 3, 0);
        dueAll("behind a renewal all but the last", senderAsked(first, 0, 0, STATUS_CAME, S, AGAIN, KEPT, WAITING),
            3, 2, 2, 1, 1);
        House two = plainHouse();
        giveAll(two, 3, 10);
        two.tick(2 + 2 + 1 + 4 + 5, 0, 0);
        two.tick(20, 0, GONE_0);
        due("a unit ends in piece 0, another is cut there", two.delivered(1, 0, NEXT), 1);
        idle(two, 9);
        two.tick(250, 20, 0);
        dueAll("the POLL timer brings piece 0; a STATUS comes", senderAsked(two, 0, 0, A, KEPT), 1, 1);
        // A REPORT's bytes are no unit's, whatever COUNT stands behind them.
        House report = plainHouse();
        for (int i = 0; i < 32; i++) {
            giveAll(report, 1);
            if (i == 20 || i == 30) {
                report.tick(250, 250, 0);
                idle(report, 5);
            }
        }
        report.renew();
        report.tick(6, 0, 0);
        report.tick(6, 0, GONE_0);
        idle(report, 9);
        report.tick(6, 0, 0);
        dueAll("the REPORT has gone again", new int[] {report.block(0, 3), report.receiver(1, 0, WANTED)}, 0, 1);
        report.tick(0, 4, 0);
        dueAll("it is confirmed, unit 31 isn't", senderAsked(report, 0, 0, A, S, KEPT), 1, 2, 1);
    }
}
