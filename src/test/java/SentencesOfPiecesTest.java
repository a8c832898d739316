/** The document's Terms on pieces, DATA on the air and what a SENDER makes: a test for each sentence with an edge. */
public final class SentencesOfPiecesTest extends Bench {
    private static final String TERMS = "Terms";

    public static void main(String[] args) {
        fields();
        heads();
        making();
        polls();
        finish();
    }

    private static void fields() {
        of(TERMS, "A is the lowest that is not confirmed, S the next new one.", SentencesOfPiecesTest::fromAToS);
        of(TERMS, "A piece has a FIELD of 1 to 240 bytes,", SentencesOfPiecesTest::fieldsOf1And240Bytes);
        of(TERMS, "those that were next in WAITING.", SentencesOfPiecesTest::fieldsAreNextInWaiting);
    }

    private static void heads() {
        of(TERMS, "DATA on the air: a byte 128, + 64 if it is a PART (of the field),",
            SentencesOfPiecesTest::onlyLessThanTheFieldIsAPart);
        of(TERMS, "+ 32 with POLL,", SentencesOfPiecesTest::pollOnTheAir);
        of(TERMS, "+ 16 if its first byte is not the first of a packet,", SentencesOfPiecesTest::beginsInsideAPacket);
        of(TERMS, "+ 8 if its last byte is not the last of one,", SentencesOfPiecesTest::endsInsideAPacket);
        of(TERMS, "+ 4 with LENGTHS;", SentencesOfPiecesTest::noLengthsWithoutAnotherByteBehind);
        of(TERMS, "a byte number & 63, + 128 if it is a PART that goes up to the field's end;",
            SentencesOfPiecesTest::partUpToTheEnd);
        of(TERMS, "of a PART a byte OFFSET (where in the field it begins);", SentencesOfPiecesTest::offsetsFrom0To239);
        of(TERMS, "LENGTHS: for each packet whose last byte is in it with another byte behind, how many of its bytes are"
            + " in it,", SentencesOfPiecesTest::lengthsFrom1To121);
        of(TERMS, "+ 128 if another LENGTH follows;", SentencesOfPiecesTest::anotherLengthFollows);
    }

    private static void making() {
        of(TERMS, "(1) a STATUS of RECEIVER(p, b), if it is WANTED,", SentencesOfPiecesTest::statusIfWanted);
        of(TERMS, "the PROHIBIT timer doesn't run,", SentencesOfPiecesTest::noStatusWhileProhibitRuns);
        of(TERMS, "and n is 2 or more.", SentencesOfPiecesTest::statusOf2Bytes);
        of(TERMS, "Then, if it is not FAILED:", SentencesOfPiecesTest::noDataIfFailed);
        of(TERMS, "(2) if there is anything in AGAIN (bytes of fields, to be sent again), of its lowest piece",
            SentencesOfPiecesTest::lowestPieceAgainFirst);
        of(TERMS, "the first run of bytes next to each other:", SentencesOfPiecesTest::firstRunAgainFirst);
        of(TERMS, "if that is the whole field, and fits as it was sent first: that;",
            SentencesOfPiecesTest::wholeFieldIfItFits);
        of(TERMS, "else, if n is 4 or more, a PART with as many bytes of the run, from its first on, as fit;",
            SentencesOfPiecesTest::partOf4BytesOrMore);
        of(TERMS, "else nothing. What was made is in AGAIN no more.", SentencesOfPiecesTest::nothingNewAheadOfAgain);
        of(TERMS, "(3) Else, if something is WAITING,", SentencesOfPiecesTest::nothingWithoutWaiting);
        of(TERMS, "S - A is below 16", SentencesOfPiecesTest::sixteenPiecesAtMost);
        of(TERMS, "and n is 3 or more:", SentencesOfPiecesTest::newPieceOf3BytesOrMore);
        of(TERMS, "a new piece with as many bytes as fit (a byte behind a packet's last one costs its LENGTH, too),",
            SentencesOfPiecesTest::lengthCosts);
        of(TERMS, "240 at most.", SentencesOfPiecesTest::noMoreThan240);
    }

    private static void polls() {
        of(TERMS, "POLL stands in DATA if ASKED is on;", SentencesOfPiecesTest::pollIfAsked);
        of(TERMS, "or three DATA were made since one with POLL (or since the beginning);",
            SentencesOfPiecesTest::pollBehindThree);
        of(TERMS, "or behind it nothing is WAITING and AGAIN is empty;", SentencesOfPiecesTest::pollIfNothingIsBehind);
        of(TERMS, "or behind it S - A is 16.", SentencesOfPiecesTest::pollInTheSixteenth);
        of(TERMS, "With POLL ASKED goes off,", SentencesOfPiecesTest::askedGoesOff);
        of(TERMS, "POLLED is S - 1,", SentencesOfPiecesTest::polledIsTheNewestPiece);
        of(TERMS, "and the POLL timer runs, 10.", SentencesOfPiecesTest::pollTimerRuns10);
    }

    private static void fromAToS() {
        House h = plainHouse();
        dueAll("numbered from 0", senderAsked(h, 0, 0, A, S), 0, 0);
        giveAll(h, 3, 3, 3);
        h.tick(8, 0, 0);
        h.tick(8, 0, 0);
        dueAll("two are out", senderAsked(h, 0, 0, A, S), 0, 2);
        h.tick(8, 4, 0);
        dueAll("all are confirmed: A is S", senderAsked(h, 0, 0, A, S), 3, 3);
    }

    private static void fieldsOf1And240Bytes() {
        House one = plainHouse();
        giveAll(one, 1);
        one.tick(5, 0, 0);
        dueAll("a field of one byte", blockOf(one, 0), 0, 3, 128 + 8, 0, 128);
        House h = plainHouse();
        giveAll(h, 120, 118);
        h.tick(250, 0, 0);
        dueAll("a field of 240 bytes", air(h, 0, 0, 5), 0, 2 + 1 + 240, 128 + 32 + 4, 0, 121);
        due("is all", h.block(0, 245), 255);
        due("it came", h.delivered(1, 0, NEXT), 2);
    }

    private static void fieldsAreNextInWaiting() {
        House h = plainHouse();
        giveAll(h, 4, 2);
        h.tick(7, 0, 0);
        dueAll("three bytes", air(h, 0, 4, 7), part(packet(4, 0), 0, 3));
        h.tick(20, 0, 0);
        dueAll("the rest of it", air(h, 0, 5, 7), part(packet(4, 0), 3, 5));
        dueAll("and the next packet", air(h, 0, 7, 10), packet(2, 1));
    }

    private static void onlyLessThanTheFieldIsAPart() {
        House whole = lostPiece(5);
        whole.tick(20, 0, 0);
        dueAll("the whole field again is no PART", air(whole, 0, 0, 5), 0, 8, 128 + 32, 0, 128);
        House less = lostPiece(5);
        less.tick(6, 0, 0);
        dueAll("a byte of it is", air(less, 0, 0, 5), 0, 4, 128 + 64 + 32 + 8, 0, 0);
        House cut = plainHouse();
        giveAll(cut, 5);
        cut.tick(6, 0, 0);
        dueAll("a field that ends inside a packet is none", air(cut, 0, 0, 4), 0, 4, 128 + 8, 0);
    }

    private static void pollOnTheAir() {
        House h = plainHouse();
        giveAll(h, 5);
        h.tick(9, 0, 0);
        dueAll("without", new int[] {h.block(0, 2), h.receiver(1, 0, WANTED)}, 128 + 8, 0);
        h.tick(9, 0, 0);
        dueAll("with", new int[] {h.block(0, 2), h.receiver(1, 0, WANTED)}, 128 + 32 + 16, 1);
    }

    /** Packets of 3 and of 4 bytes in one field of 7, of which a PART begins at 3 and another at 4. */
    private static House atTheSecondPacket() {
        House h = lostPiece(2, 3);
        h.tick(8, 0, 0);
        return h;
    }

    private static void beginsInsideAPacket() {
        House h = atTheSecondPacket();
        due("the field's first byte is a packet's first", h.block(0, 2) & 16, 0);
        h.tick(6, 0, 0);
        dueAll("its fourth, too", new int[] {h.block(0, 2) & 16, h.block(0, 4)}, 0, 3);
        h.tick(6, 0, 0);
        dueAll("its fifth is not", new int[] {h.block(0, 2) & 16, h.block(0, 4)}, 16, 4);
        House next = plainHouse();
        giveAll(next, 3);
        next.tick(6, 0, 0);
        next.tick(20, 0, 0);
        due("nor is a later field's first byte", next.block(0, 2), 128 + 32 + 16);
    }

    private static void endsInsideAPacket() {
        House h = atTheSecondPacket();
        dueAll("three bytes end with a packet", new int[] {h.block(0, 1), h.block(0, 2) & 8}, 3 + 3, 0);
        h.tick(7, 0, 0);
        dueAll("two more don't", new int[] {h.block(0, 1), h.block(0, 2) & 8}, 3 + 2, 8);
        h.tick(7, 0, 0);
        dueAll("the last two do", new int[] {h.block(0, 1), h.block(0, 2) & 8}, 3 + 2, 0);
        due("all came", h.delivered(1, 0, NEXT), 2);
    }

    private static void noLengthsWithoutAnotherByteBehind() {
        House alone = plainHouse();
        giveAll(alone, 2, 3);
        alone.tick(8, 0, 0);
        dueAll("a packet's last byte ends the DATA", air(alone, 0, 0, 5), 0, 5, 128, 0, 128);
        House more = plainHouse();
        giveAll(more, 2, 3);
        more.tick(9, 0, 0);
        dueAll("a byte stands behind it", air(more, 0, 0, 6), 0, 7, 128 + 8 + 4, 0, 3, 128);
        House part = lostPiece(2, 3);
        part.tick(11, 0, 0);
        dueAll("in a PART, too", air(part, 0, 0, 7), 0, 9, 128 + 64 + 32 + 8 + 4, 0, 0, 3, 128);
        part.tick(20, 0, 0);
        due("both came", part.delivered(1, 0, NEXT), 2);
    }

    private static void partUpToTheEnd() {
        House h = lostPiece(5);
        h.tick(9, 0, 0);
        dueAll("four of six bytes", air(h, 0, 1, 5), 3 + 4, 128 + 64 + 32 + 8, 0, 0);
        h.tick(6, 0, 0);
        dueAll("the fifth", air(h, 0, 1, 5), 3 + 1, 128 + 64 + 16 + 8, 0, 4);
        h.tick(6, 0, 0);
        dueAll("the sixth", air(h, 0, 1, 5), 3 + 1, 128 + 64 + 32 + 16, 128, 5);
        due("the field's end is known", h.delivered(1, 0, NEXT), 1);
        House whole = lostPiece(5);
        whole.tick(10, 0, 0);
        dueAll("a whole field has no + 128", air(whole, 0, 1, 5), 2 + 6, 128 + 32, 0, 128);
    }

    private static void offsetsFrom0To239() {
        House h = lostPiece(120, 118);
        h.tick(2 + 3 + 1 + 238, 0, 0);
        dueAll("238 bytes from 0 on", air(h, 0, 1, 6), 3 + 1 + 238, 128 + 64 + 32 + 8 + 4, 0, 0, 121);
        h.tick(6, 0, 0);
        dueAll("the last but one", air(h, 0, 1, 5), 4, 128 + 64 + 16 + 8, 0, 238);
        h.tick(6, 0, 0);
        dueAll("the last", air(h, 0, 1, 5), 4, 128 + 64 + 32 + 16, 128, 239);
        dueAll("all came", deliveredAsked(h, 1, 0, NEXT, SUM), 2, sumOf(sumOf(0, row(120, 0)), row(118, 0)));
    }

    private static void lengthsFrom1To121() {
        House h = plainHouse();
        giveAll(h, 120, 1);
        h.tick(250, 0, 0);
        dueAll("all of a packet", air(h, 0, 1, 5), 2 + 1 + 121 + 2, 128 + 32 + 4, 0, 121);
        House cut = plainHouse();
        giveAll(cut, 5, 5);
        cut.tick(9, 0, 0);
        cut.tick(20, 0, 0);
        dueAll("its last byte alone, the others went ahead", air(cut, 0, 1, 5), 2 + 1 + 1 + 6, 128 + 32 + 16 + 4, 1, 1);
        due("both came", cut.delivered(1, 0, NEXT), 2);
        House part = lostPiece(2, 3);
        part.tick(7, 0, 0);
        part.tick(20, 0, 0);
        dueAll("of a PART, from its OFFSET on", air(part, 0, 1, 6), 3 + 1 + 5, 128 + 64 + 32 + 16 + 4, 128, 2, 1);
        due("both came here, too", part.delivered(1, 0, NEXT), 2);
    }

    private static void anotherLengthFollows() {
        House one = plainHouse();
        giveAll(one, 1, 1);
        one.tick(250, 0, 0);
        dueAll("one LENGTH", air(one, 0, 1, 6), 7, 128 + 32 + 4, 0, 2, 128);
        House three = plainHouse();
        giveAll(three, 1, 2, 120, 1);
        three.tick(250, 0, 0);
        dueAll("three", air(three, 0, 1, 8), 2 + 3 + 2 + 3 + 121 + 2, 128 + 32 + 4, 0, 128 + 2, 128 + 3, 121, 128);
        due("all came", three.delivered(1, 0, NEXT), 4);
    }

    private static void statusIfWanted() {
        House h = plainHouse();
        giveAll(h, 20);
        due("DATA without POLL want none", h.tick(10, 250, 0), 1 + 4);
        due("DATA with POLL do", h.tick(50, 250, 0), 15);
        dueAll("STATUS", air(h, 1, 0, 5), 0, 2, 0, 2, 255);
        House both = plainHouse();
        giveAll(both, 3);
        give(both, 1, 0, 3, 0);
        both.tick(20, 20, 0);
        dueAll("a STATUS goes ahead of DATA", air(both, 1, 0, 7), 0, 2, 0, 1, 0, 6, 128 + 32);
    }

    private static void noStatusWhileProhibitRuns() {
        House h = plainHouse();
        giveAll(h, 3);
        due("a STATUS", h.tick(20, 20, 0), 15);
        giveAll(h, 3);
        due("WANTED at once again", h.tick(20, 20, 0), 5);
        for (int left = 3; left >= 1; left--) {
            due("none yet", h.tick(20, 20, 0), 0);
            dueAll("PROHIBIT, WANTED", receiverAsked(h, 1, 0, PROHIBIT, WANTED), left, 1);
        }
        due("now it goes", h.tick(20, 20, 0), 10);
        House data = plainHouse();
        giveAll(data, 3);
        data.tick(20, 20, 0);
        giveAll(data, 3);
        give(data, 1, 0, 3, 0);
        due("DATA may go while it runs", data.tick(20, 20, 0), 15);
        due("as they do", data.block(1, 2), 128 + 32);
    }

    private static void statusOf2Bytes() {
        House h = plainHouse();
        giveAll(h, 3);
        due("n is 1", h.tick(20, 3, 0), 5);
        due("it stays WANTED", h.receiver(1, 0, WANTED), 1);
        due("n is 2", h.tick(0, 4, 0), 10);
        dueAll("STATUS", blockOf(h, 1), 0, 2, 0, 1);
    }

    /** Its SENDER(0, 0) is FAILED with four bytes in AGAIN. */
    private static House failedHouse() {
        House h = lostPiece(3);
        for (int tries = 1; tries < 5; tries++) {
            h.tick(20, 0, GONE_0);
            idle(h, 9);
        }
        h.tick(0, 0, 0);
        dueAll("FAILED, AGAIN", senderAsked(h, 0, 0, FAILED, AGAIN), 1, 4);
        return h;
    }

    private static void noDataIfFailed() {
        House h = failedHouse();
        giveAll(h, 3);
        due("nothing of AGAIN or WAITING goes", h.tick(250, 0, 0), 0);
        give(h, 1, 0, 3, 0);
        due("the other SENDER is not FAILED", h.tick(0, 20, 0), 10);
        due("a STATUS goes", h.tick(250, 0, 0), 5);
        dueAll("alone", air(h, 0, 0, 5), 0, 2, 0, 1, 255);
        h.renew();
        due("not FAILED any more", h.tick(250, 0, 0), 5);
    }

    /** Pieces 0 and 1 of ten bytes are missing, piece 2 came; a STATUS has named both. */
    private static House twoPiecesAgain() {
        House h = plainHouse();
        giveAll(h, 40);
        h.tick(14, 0, GONE_0);
        h.tick(14, 0, GONE_0);
        h.tick(14, 0, 0);
        idle(h, 5);
        h.tick(0, 250, 0);
        due("AGAIN", h.sender(0, 0, AGAIN), 20);
        return h;
    }

    private static void lowestPieceAgainFirst() {
        House h = twoPiecesAgain();
        h.tick(14, 0, 0);
        dueAll("piece 0, with POLL as the fourth DATA", air(h, 0, 0, 4), 0, 12, 128 + 32 + 8, 0);
        h.tick(14, 0, 0);
        dueAll("piece 1", air(h, 0, 0, 4), 0, 12, 128 + 16 + 8, 1);
        h.tick(14, 0, 0);
        dueAll("then a new one", air(h, 0, 0, 4), 0, 12, 128 + 16 + 8, 3);
    }

    /** Of a field of five bytes the second and the fourth are missing, and in AGAIN. */
    private static House twoRunsAgain() {
        House h = lostPiece(4);
        for (int i = 0; i < 5; i++) {
            h.tick(6, 0, i % 2 == 0 ? 0 : GONE_0);
        }
        idle(h, 1);
        h.tick(0, 250, 0);
        due("AGAIN", h.sender(0, 0, AGAIN), 2);
        return h;
    }

    private static void firstRunAgainFirst() {
        House h = twoRunsAgain();
        h.tick(20, 0, 0);
        dueAll("the first run, then the second", air(h, 0, 0, 6), 0, 4, 128 + 64 + 16 + 8, 0, 1, packet(4, 0)[1]);
        dueAll("which is another PART", air(h, 0, 6, 12), 0, 4, 128 + 64 + 32 + 16 + 8, 0, 3, packet(4, 0)[3]);
        due("it came", h.delivered(1, 0, SUM), sumOf(0, row(4, 0)));
    }

    private static void wholeFieldIfItFits() {
        House exact = lostPiece(2, 3);
        exact.tick(2 + 2 + 1 + 7, 0, 0);
        dueAll("it fits", air(exact, 0, 0, 5), 0, 10, 128 + 32 + 4, 0, 3);
        House less = lostPiece(2, 3);
        less.tick(2 + 2 + 1 + 6, 0, 0);
        dueAll("it doesn't by a byte", air(less, 0, 0, 6), 0, 9, 128 + 64 + 32 + 8 + 4, 0, 0, 3);
        for (int n = 9; n <= 10; n++) {
            House cut = lastByteOfAPacketAgain();
            cut.tick(2 + n, 0, 0);
            dueAll("a field with a packet's last byte ahead, n is " + n, air(cut, 0, 1, 4), n,
                128 + 16 + 4 + (n == 9 ? 64 + 8 : 32), 1);
        }
        House tiny = plainHouse();
        giveAll(tiny, 1);
        tiny.tick(5, 0, GONE_0);
        tiny.tick(5, 0, GONE_0);
        idle(tiny, 9);
        due("n is 2", tiny.tick(4, 0, 0), 0);
        due("n is 3, enough for a field of one byte", tiny.tick(5, 0, 0), 5);
        dueAll("which goes as it did first", blockOf(tiny, 0), 0, 3, 128 + 32 + 8, 0, 128);
    }

    /** Piece 1, in AGAIN, has the last byte of a packet, and another one of six bytes. */
    private static House lastByteOfAPacketAgain() {
        House h = plainHouse();
        giveAll(h, 5, 5, 5);
        h.tick(9, 0, 0);
        h.tick(12, 0, GONE_0);
        h.tick(10, 0, 0);
        idle(h, 5);
        h.tick(0, 20, 0);
        due("AGAIN", h.sender(0, 0, AGAIN), 7);
        return h;
    }

    private static void partOf4BytesOrMore() {
        House h = lostPiece(5);
        due("n is 3", h.tick(5, 0, 0), 0);
        due("n is 4", h.tick(6, 0, 0), 5);
        dueAll("one byte", blockOf(h, 0), 0, 4, 128 + 64 + 32 + 8, 0, 0, 128);
        h.tick(8, 0, 0);
        dueAll("n is 6: three bytes, from the run's first on", blockOf(h, 0), 0, 6, 128 + 64 + 16 + 8, 0, 1,
            packet(5, 0)[1], packet(5, 0)[2], packet(5, 0)[3]);
        House run = threeOfTenMissing();
        run.tick(2 + 5, 0, 0);
        dueAll("n is 5: two of three, though the run begins the field", air(run, 0, 0, 5), 0, 5, 128 + 64 + 8, 0, 0);
        run.tick(2 + 4, 0, 0);
        dueAll("n is 4: the third", air(run, 0, 0, 5), 0, 4, 128 + 64 + 32 + 16 + 8, 0, 2);
        House last = lostPiece(9);
        last.tick(12, 0, 0);
        last.tick(2 + 5, 0, 0);
        dueAll("n is 5: two of three, though the run ends the field", air(last, 0, 0, 5), 0, 5, 128 + 64 + 16 + 8, 0, 7);
        House two = lostPiece(2, 3);
        two.tick(9, 0, 0);
        dueAll("no room for a LENGTH and the byte behind", air(two, 0, 0, 5), 0, 6, 128 + 64 + 32, 0, 0);
    }

    /** Of a field of ten bytes the first three are missing, and in AGAIN. */
    private static House threeOfTenMissing() {
        House h = lostPiece(9);
        h.tick(8, 0, GONE_0);
        h.tick(20, 0, 0);
        idle(h, 5);
        h.tick(0, 250, 0);
        due("AGAIN", h.sender(0, 0, AGAIN), 3);
        return h;
    }

    private static void nothingNewAheadOfAgain() {
        House h = lostPiece(5);
        idle(h, 1);
        due("all in AGAIN", h.sender(0, 0, AGAIN), 6);
        giveAll(h, 5);
        due("n is 3: no PART, and no new piece", h.tick(5, 0, 0), 0);
        dueAll("nothing changed", senderAsked(h, 0, 0, S, WAITING, AGAIN), 1, 6, 6);
        h.tick(8, 0, 0);
        due("three bytes are in AGAIN no more", h.sender(0, 0, AGAIN), 3);
        h.tick(8, 0, 0);
        dueAll("nor are the rest; all that was made was not new", senderAsked(h, 0, 0, AGAIN, S, NOT_NEW), 0, 1, 2);
    }

    private static void nothingWithoutWaiting() {
        House h = plainHouse();
        due("nothing to send", h.tick(250, 250, 0), 0);
        giveAll(h, 1);
        due("something to send", h.tick(250, 0, 0), 5);
        due("nothing any more", h.tick(250, 0, 0), 0);
    }

    private static void sixteenPiecesAtMost() {
        House h = plainHouse();
        giveAll(h, 120);
        for (int i = 0; i < 16; i++) {
            due("piece " + i, h.tick(6, 0, 0), 5);
        }
        due("S - A is 16", h.sender(0, 0, S), 16);
        due("no more", h.tick(250, 0, 0), 0);
        h.tick(0, 4, 0);
        due("all are confirmed", h.sender(0, 0, A), 16);
        for (int i = 16; i < 32; i++) {
            due("piece " + i, h.tick(6, 0, 0), 5);
        }
        due("S - A is 16 again", h.sender(0, 0, S), 32);
        due("no more", h.tick(250, 0, 0), 0);
    }

    private static void newPieceOf3BytesOrMore() {
        House h = plainHouse();
        giveAll(h, 2);
        due("n is 2", h.tick(4, 0, 0), 0);
        dueAll("nothing changed", senderAsked(h, 0, 0, S, WAITING), 0, 3);
        due("n is 3", h.tick(5, 0, 0), 5);
        dueAll("one byte", senderAsked(h, 0, 0, S, WAITING), 1, 2);
    }

    private static void lengthCosts() {
        House less = plainHouse();
        giveAll(less, 2, 2);
        less.tick(2 + 6, 0, 0);
        dueAll("a byte is left, too little for a LENGTH and a byte", blockOf(less, 0), 0, 5, 128, 0, 128,
            packet(2, 0)[1], packet(2, 0)[2], 255);
        House exact = plainHouse();
        giveAll(exact, 2, 2);
        exact.tick(2 + 7, 0, 0);
        dueAll("two are enough", blockOf(exact, 0), 0, 7, 128 + 8 + 4, 0, 3, 128, packet(2, 0)[1], packet(2, 0)[2], 129);
    }

    private static void noMoreThan240() {
        House h = plainHouse();
        giveAll(h, 120, 119);
        h.tick(250, 0, 0);
        dueAll("241 bytes wait: 240 go", air(h, 0, 0, 5), 0, 2 + 1 + 240, 128 + 8 + 4, 0, 121);
        dueAll("the last one in a piece of its own", air(h, 0, 245, 249), 0, 3, 128 + 32 + 16, 1);
        due("S", h.sender(0, 0, S), 2);
        due("all came", h.delivered(1, 0, SUM), sumOf(sumOf(0, row(120, 0)), row(119, 0)));
    }

    /** A lost piece; then much is WAITING, and with tick 11, the next one, ASKED goes on. */
    private static House askedSoon() {
        House h = plainHouse();
        giveAll(h, 5);
        h.tick(20, 0, GONE_0);
        giveAll(h, 120);
        idle(h, 9);
        return h;
    }

    private static void pollIfAsked() {
        House h = askedSoon();
        h.tick(10, 0, 0);
        dueAll("ASKED", air(h, 0, 2, 4), 128 + 32 + 8, 1);
        House k = plainHouse();
        giveAll(k, 5);
        k.tick(20, 0, GONE_0);
        giveAll(k, 120);
        idle(k, 8);
        k.tick(10, 0, 0);
        dueAll("not ASKED a tick ahead", air(k, 0, 2, 4), 128 + 8, 1);
    }

    private static void pollBehindThree() {
        House h = plainHouse();
        giveAll(h, 120);
        int[] heads = new int[9];
        for (int i = 0; i < heads.length; i++) {
            h.tick(10, 0, 0);
            heads[i] = h.block(0, 2) & 32;
        }
        dueAll("POLL in every fourth", heads, 0, 0, 0, 32, 0, 0, 0, 32, 0);
        h.renew();
        for (int i = 0; i < 5; i++) {
            h.tick(10, 0, 0);
            due("after a renewal from the beginning, " + i, h.block(0, 2) & 32, i == 3 ? 32 : 0);
        }
    }

    private static void pollIfNothingIsBehind() {
        House h = plainHouse();
        giveAll(h, 5);
        h.tick(9, 0, 0);
        due("a byte is WAITING", h.block(0, 2) & 32, 0);
        h.tick(9, 0, 0);
        due("nothing is", h.block(0, 2) & 32, 32);
        House again = lostPiece(5);
        again.tick(7, 0, 0);
        due("ASKED", again.block(0, 2) & 32, 32);
        again.tick(7, 0, 0);
        due("nothing is WAITING, but AGAIN has bytes", again.block(0, 2) & 32, 0);
        again.tick(7, 0, 0);
        due("nor has AGAIN", again.block(0, 2) & 32, 32);
    }

    private static void pollInTheSixteenth() {
        House h = plainHouse();
        giveAll(h, 1);
        h.tick(20, 0, GONE_0);
        giveAll(h, 120);
        int[] heads = new int[15];
        for (int i = 0; i < 15; i++) {
            h.tick(6, 0, 0);
            heads[i] = h.block(0, 2) & 32;
        }
        // Pieces 4, 8 and 12 have it as the fourth DATA each; piece 15 would be the third.
        dueAll("pieces 1 to 15", heads, 0, 0, 0, 32, 0, 0, 0, 32, 0, 0, 0, 32, 0, 0, 32);
        due("S - A is 16", h.sender(0, 0, S), 16);
        House later = plainHouse();
        giveAll(later, 1);
        later.tick(20, 20, 0);
        giveAll(later, 1);
        later.tick(20, 0, GONE_0);
        giveAll(later, 120);
        for (int i = 0; i < 15; i++) {
            later.tick(6, 0, 0);
            heads[i] = later.block(0, 2) & 32;
        }
        dueAll("pieces 2 to 16, when A is 1", heads, 0, 0, 0, 32, 0, 0, 0, 32, 0, 0, 0, 32, 0, 0, 32);
        House again = plainHouse();
        giveAll(again, 120);
        for (int i = 0; i < 16; i++) {
            again.tick(7, 0, GONE_0);
        }
        idle(again, 10);
        for (int left = 2; left >= 0; left--) {
            again.tick(6, 0, 0);
            dueAll("each PART of piece 0, too", new int[] {again.block(0, 2) & 32, again.sender(0, 0, AGAIN)}, 32, left);
        }
    }

    private static void askedGoesOff() {
        House h = askedSoon();
        h.tick(10, 0, 0);
        due("ASKED: POLL", h.block(0, 2) & 32, 32);
        for (int i = 0; i < 3; i++) {
            h.tick(10, 0, 0);
            due("not ASKED any more", h.block(0, 2) & 32, 0);
        }
        h.tick(10, 0, 0);
        due("the fourth behind it", h.block(0, 2) & 32, 32);
    }

    /** Piece 0 is lost, 1 comes, 2 is lost; a STATUS has ACK 2, and piece 0 goes again, with POLL. */
    private static void polledIsTheNewestPiece() {
        House h = plainHouse();
        giveAll(h, 3, 3, 3);
        h.tick(8, 0, GONE_0);
        h.tick(8, 0, 0);
        h.tick(8, 0, GONE_0);
        due("POLL in piece 2", h.sender(0, 0, POLL_TIMER), 10);
        idle(h, 4);
        h.tick(0, 20, 0);
        dueAll("an entry for 0, ACK 2", air(h, 1, 0, 5), 0, 3, 1, 2, 0);
        due("POLLED is 2, not below ACK", h.sender(0, 0, POLL_TIMER), 5);
        h.tick(8, 0, 0);
        dueAll("POLL in piece 0", air(h, 0, 2, 4), 128 + 32, 0);
        due("it came, and POLLS is below MS", h.receiver(1, 0, WANTED), 1);
        idle(h, 3);
        h.tick(0, 20, 0);
        dueAll("ACK 2", air(h, 1, 0, 4), 0, 2, 0, 2);
        due("POLLED is 2, not 0", h.sender(0, 0, POLL_TIMER), 6);
    }

    private static void pollTimerRuns10() {
        House h = plainHouse();
        giveAll(h, 120);
        for (int i = 0; i < 3; i++) {
            h.tick(10, 0, 0);
            due("no POLL yet", h.sender(0, 0, POLL_TIMER), 0);
        }
        h.tick(10, 0, 0);
        due("POLL", h.sender(0, 0, POLL_TIMER), 10);
        for (int i = 0; i < 3; i++) {
            h.tick(10, 0, 0);
            due("no new POLL", h.sender(0, 0, POLL_TIMER), 9 - i);
        }
        h.tick(10, 0, 0);
        due("from 10 again", h.sender(0, 0, POLL_TIMER), 10);
    }
}
