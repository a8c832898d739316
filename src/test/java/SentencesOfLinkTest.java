/** The document's Terms on blocks, PROCESSES, a TICK and the link made anew: a test for each sentence with an edge. */
public final class SentencesOfLinkTest extends Bench {
    private static final String TERMS = "Terms";

    public static void main(String[] args) {
        blocks();
        processes();
        ticks();
        growth();
        renewals();
        finish();
    }

    private static void blocks() {
        of(TERMS, "A BLOCK of g bytes has PARTS: a byte b, a byte (how many follow), what SENDER(p, b) made;",
            SentencesOfLinkTest::partsOfBearers);
        of(TERMS, "behind them, if there is room, 255 and 0s.", SentencesOfLinkTest::fillingIfThereIsRoom);
        of(TERMS, "Each (p, b) has a BUCKET, 0 at first.", SentencesOfLinkTest::bucketsAreApart);
        of(TERMS, "For each bearer in order whose BUCKET is above 0,", SentencesOfLinkTest::bucketAbove0);
        of(TERMS, "as long as it makes something: it may have (what is left of the block, or the BUCKET if that is less)"
            + " - 2 bytes", SentencesOfLinkTest::theLessOfBoth);
        of(TERMS, "(nothing below 1);", SentencesOfLinkTest::nothingOfASmallBucket);
        of(TERMS, "what it makes, and 2, go off both.", SentencesOfLinkTest::goesOffTheBucket);
        of(TERMS, "Then for each bearer in order, as long as it makes something: what is left - 2; these go off both, too.",
            SentencesOfLinkTest::whatIsLeftInOrder);
        of(TERMS, "Without any PARTS there is no block.", SentencesOfLinkTest::noBlockWithoutParts);
    }

    private static void processes() {
        of(TERMS, "Each peer has four PROCESSES, empty at first.", SentencesOfLinkTest::fourEmptyProcesses);
        of(TERMS, "In tick t (1, 2, ..) it is the one with t & 3:", SentencesOfLinkTest::processOfATick);
        of(TERMS, "if it has a block, that is sent (whatever g);", SentencesOfLinkTest::sentWhateverG);
        of(TERMS, "else a new one of g bytes, if there is one.", SentencesOfLinkTest::newOneOfGBytes);
        of(TERMS, "A block that is sent counts one SENDING more;", SentencesOfLinkTest::sendingsAreCounted);
        of(TERMS, "if it is not lost, it has come;", SentencesOfLinkTest::hasComeIfNotLost);
        of(TERMS, "when it comes first, its PARTS are worked on", SentencesOfLinkTest::workedOnOnce);
        of(TERMS, "its PARTS are worked on in order.", SentencesOfLinkTest::workedOnInOrder);
        of(TERMS, "The answer, at once: whether it has come (now or ahead), the other way round if it is turned.",
            SentencesOfLinkTest::answers);
        of(TERMS, "Yes: the process is empty.", SentencesOfLinkTest::emptyAfterAYes);
        of(TERMS, "No: likewise if there were 3 SENDINGS (the block is DROPPED).", SentencesOfLinkTest::droppedAtTheThird);
    }

    private static void ticks() {
        of(TERMS, "A TICK: for each peer, and there for each bearer: the POLL timer of SENDER(p, b), the REORDER and the"
            + " PROHIBIT timer of RECEIVER(p, b) that run go down by one; at 0 they run no more, and:",
            SentencesOfLinkTest::timersGoDown);
        of(TERMS, "POLL: ASKED goes on,", SentencesOfLinkTest::askedAtTheEnd);
        of(TERMS, "and if AGAIN is empty,", SentencesOfLinkTest::notIfAgainHasBytes);
        of(TERMS, "and nothing WAITING", SentencesOfLinkTest::notIfSomethingWaits);
        of(TERMS, "or S - A 16:", SentencesOfLinkTest::yetIfSixteenAreOut);
        of(TERMS, "all of piece A comes to AGAIN (TRIES as above).", SentencesOfLinkTest::fiveTriesOfTheTimer);
        of(TERMS, "REORDER: MS is X, if it was below,", SentencesOfLinkTest::msIsX);
        of(TERMS, "and goes on while that piece is WHOLE;", SentencesOfLinkTest::msGoesOnAtTheEnd);
        of(TERMS, "a STATUS is WANTED; POLLS as above;", SentencesOfLinkTest::wantedAtTheEnd);
        of(TERMS, "if H is above MS it runs again, 6, and X is H.", SentencesOfLinkTest::runsAgain);
        of(TERMS, "Then peer 0 sends, and what comes is worked on; then peer 1.", SentencesOfLinkTest::peer0SendsFirst);
    }

    private static void growth() {
        of(TERMS, "the POLL timer of a SENDER that is not FAILED runs, 10,", SentencesOfLinkTest::notOfAFailedSender);
        of(TERMS, "if it doesn't,", SentencesOfLinkTest::aTimerThatRunsGoesOn);
        of(TERMS, "A is below S, nothing is WAITING and AGAIN is empty", SentencesOfLinkTest::timerIsNotStarted);
        of(TERMS, "(what was WAITING may have been taken out);", SentencesOfLinkTest::timerIsStarted);
        of(TERMS, "the BUCKET grows by RATE (16 at first), up to 5 * RATE", SentencesOfLinkTest::upTo5Times);
        of(TERMS, "(one that is above stays).", SentencesOfLinkTest::oneAboveStays);
    }

    private static void renewals() {
        of(TERMS, "THE LINK IS MADE ANEW, in this order: each RECEIVER goes through its pieces from R to below H: WHOLE"
            + " ones are HANDED, at others what was begun of a packet is gone", SentencesOfLinkTest::holesEndWhatWasBegun);
        of(TERMS, "(behind the last one, too);", SentencesOfLinkTest::goneBehindTheLast);
        of(TERMS, "then it has none: R, H, MS, X 0, no POLLS, nothing WANTED, its timers don't run.",
            SentencesOfLinkTest::receiverAnew);
        of(TERMS, "Each SENDER: no pieces, nothing in AGAIN, A and S 0,", SentencesOfLinkTest::senderAnew);
        of(TERMS, "ASKED off,", SentencesOfLinkTest::askedOff);
        of(TERMS, "not FAILED,", SentencesOfLinkTest::notFailed);
        of(TERMS, "POLLED none (as at first),", SentencesOfLinkTest::polledNoneAgain);
        of(TERMS, "the POLL timer doesn't run, no DATA made since a POLL.", SentencesOfLinkTest::noDataSinceAPoll);
        of(TERMS, "All PROCESSES are empty.", SentencesOfLinkTest::processesAnew);
        of(TERMS, "EPOCH goes up by one.", SentencesOfLinkTest::epochs);
        of(TERMS, "Then WAITING are for each (p, b): the REPORT of RECEIVER(p, b), and the packets of its KEPT units, in"
            + " order.", SentencesOfLinkTest::waitingAnew);
        of(TERMS, "(All RECEIVERS first, then all else.)", SentencesOfLinkTest::receiversFirst);
    }

    /** A house of three bearers with a unit of 100 bytes on each, and these RATES. */
    private static House threeBearers(int... rates) {
        House h = new House(3, 1);
        for (int b = 0; b < 3; b++) {
            h.rate(b, rates[b]);
            give(h, 0, b, 100, 0);
        }
        return h;
    }

    private static int[] buckets(House h) {
        return new int[] {h.sender(0, 0, BUCKET), h.sender(0, 1, BUCKET), h.sender(0, 2, BUCKET)};
    }

    private static void partsOfBearers() {
        House h = threeBearers(5, 6, 7);
        h.tick(18, 0, 0);
        dueAll("bearer 0", air(h, 0, 0, 4), 0, 3, 128 + 8, 0);
        dueAll("bearer 1", air(h, 0, 5, 9), 1, 4, 128 + 8, 0);
        dueAll("bearer 2", air(h, 0, 11, 15), 2, 5, 128 + 8, 0);
        due("size", h.block(0, -1), 18);
        House most = new House(1, 1);
        most.rate(0, 0);
        giveAll(most, 120, 120);
        most.tick(250, 0, 0);
        dueAll("243 follow", air(most, 0, 0, 2), 0, 243);
    }

    private static void fillingIfThereIsRoom() {
        House full = plainHouse();
        giveAll(full, 3);
        full.tick(8, 0, 0);
        dueAll("no room", air(full, 0, 0, 5), 0, 6, 128 + 32, 0, 128);
        dueAll("the packet ends the block", air(full, 0, 5, 9), packet(3, 0)[1], packet(3, 0)[2], packet(3, 0)[3], NONE);
        House one = plainHouse();
        giveAll(one, 3);
        one.tick(9, 0, 0);
        dueAll("room for 255", air(one, 0, 8, 10), 255, NONE);
        House most = plainHouse();
        giveAll(most, 3);
        most.tick(250, 0, 0);
        due("size", most.block(0, -1), 250);
        due("255", most.block(0, 8), 255);
        for (int i = 9; i < 250; i++) {
            due("0s", most.block(0, i), 0);
        }
    }

    private static void bucketsAreApart() {
        House h = new House(3, 1);
        dueAll("at first", buckets(h), 0, 0, 0);
        h.rate(2, 50);
        give(h, 0, 2, 3, 0);
        h.tick(20, 0, 0);
        dueAll("peer 0", buckets(h), 16, 16, 42);
        due("peer 1", h.sender(1, 2, BUCKET), 50);
    }

    private static void bucketAbove0() {
        House h = threeBearers(0, 20, 0);
        h.tick(35, 0, 0);
        dueAll("bearer 1 goes ahead of bearer 0", new int[] {h.block(0, 0), h.block(0, 20)}, 1, 0);
        dueAll("a BUCKET below 0", buckets(h), -15, 0, 0);
        h.tick(35, 0, 0);
        dueAll("is not above 0 either", new int[] {h.block(0, 0), h.block(0, 20)}, 1, 0);
    }

    private static void theLessOfBoth() {
        House h = threeBearers(12, 0, 0);
        h.tick(30, 0, 0);
        dueAll("the BUCKET is less", air(h, 0, 0, 2), 0, 10);
        House left = threeBearers(12, 12, 0);
        left.tick(20, 0, 0);
        dueAll("the BUCKET is less", air(left, 0, 0, 2), 0, 10);
        dueAll("what is left is less", air(left, 0, 12, 14), 1, 6);
        dueAll("BUCKETS", buckets(left), 0, 4, 0);
        House more = new House(1, 1);
        give(more, 1, 0, 3, 0);
        more.tick(0, 20, 0);
        giveAll(more, 100);
        more.tick(80, 0, 0);
        dueAll("a STATUS, and with what the BUCKET has yet", air(more, 0, 0, 6), 0, 2, 0, 1, 0, 26);
    }

    private static void nothingOfASmallBucket() {
        for (int bucket = 1; bucket <= 4; bucket++) {
            House h = threeBearers(bucket, 5, 0);
            h.tick(20, 0, 0);
            dueAll("a BUCKET of " + bucket + " is too little for DATA", air(h, 0, 0, 6), 1, 3, 136, 0, 128, 0);
            dueAll("BUCKETS", buckets(h), bucket - 15, 0, 0);
        }
        House five = threeBearers(5, 5, 0);
        five.tick(20, 0, 0);
        dueAll("a BUCKET of 5 is enough", air(five, 0, 0, 6), 0, 3, 136, 0, 128, 1);
    }

    private static void goesOffTheBucket() {
        House h = new House(1, 1);
        give(h, 0, 0, 3, 0);
        h.tick(20, 20, 0);
        due("DATA of 6 bytes, and 2", h.sender(0, 0, BUCKET), 16 - 8);
        due("a STATUS of 2 bytes, and 2", h.sender(1, 0, BUCKET), 16 - 4);
        House left = threeBearers(10, 10, 0);
        left.tick(24, 0, 0);
        dueAll("they go off what is left, too", new int[] {left.block(0, 0), left.block(0, 10)}, 0, 1);
        dueAll("of which 4 bytes are too few", air(left, 0, 20, 24), 255, 0, 0, 0);
    }

    private static void whatIsLeftInOrder() {
        House h = new House(3, 1);
        for (int b = 2; b >= 0; b--) {
            h.rate(b, 0);
            give(h, 0, b, 5, 0);
        }
        h.tick(34, 0, 0);
        dueAll("bearer 0, 1, 2", new int[] {h.block(0, 0), h.block(0, 10), h.block(0, 20), h.block(0, 30)}, 0, 1, 2, 255);
        dueAll("it goes off the BUCKETS", buckets(h), -10, -10, -10);
        House one = threeBearers(0, 0, 0);
        one.tick(34, 0, 0);
        dueAll("the first one takes it all", new int[] {one.block(0, 0), one.block(0, 1)}, 0, 32);
        dueAll("BUCKETS", buckets(one), -34, 0, 0);
        House two = plainHouse();
        giveAll(two, 120, 119);
        two.tick(250, 0, 0);
        due("as long as it makes something: two PARTS", two.sender(0, 0, DATA_MADE), 2);
        due("both off the BUCKET", two.sender(0, 0, BUCKET), -250);
    }

    private static void noBlockWithoutParts() {
        House h = plainHouse();
        due("nothing to send", h.tick(250, 250, 0), 0);
        dueAll("no block", new int[] {h.block(0, -1), h.block(1, -1), h.block(0, 0)}, NONE, NONE, NONE);
        giveAll(h, 3);
        due("too little room", h.tick(4, 0, 0), 0);
        dueAll("none sent, none in a PROCESS", new int[] {h.block(0, -1), h.process(0, 2, 0), h.world(2)}, NONE, 0, 0);
        due("no room at all", h.tick(0, 0, 0), 0);
    }

    private static void fourEmptyProcesses() {
        House h = plainHouse();
        for (int peer = 0; peer < 2; peer++) {
            for (int k = 0; k < 4; k++) {
                due("empty", h.process(peer, k, 0), 0);
            }
            dueAll("no fifth", new int[] {h.process(peer, 4, 0), h.process(peer, -1, 0)}, NONE, NONE);
        }
    }

    private static void processOfATick() {
        House h = plainHouse();
        giveAll(h, 100);
        for (int tick = 1; tick <= 4; tick++) {
            h.tick(9, 0, 1);
            for (int k = 0; k < 4; k++) {
                boolean hasBlock = k > 0 && k <= tick || tick == 4;
                due("tick " + tick + ", process " + k, h.process(0, k, 0), hasBlock ? 1 : 0);
            }
        }
        h.tick(9, 0, 1);
        dueAll("tick 5", new int[] {h.process(0, 0, 0), h.process(0, 1, 0), h.process(0, 2, 0)}, 1, 2, 1);
    }

    private static void sentWhateverG() {
        House h = plainHouse();
        giveAll(h, 3, 3);
        h.tick(8, 0, 1);
        idle(h, 3);
        due("no room", h.tick(0, 0, 1), 1);
        due("yet the block", h.block(0, -1), 8);
        idle(h, 3);
        due("more room", h.tick(250, 0, 0), 5);
        dueAll("the block alone", new int[] {h.block(0, -1), h.sender(0, 0, WAITING)}, 8, 4);
    }

    private static void newOneOfGBytes() {
        for (int g : new int[] {5, 6, 249, 250}) {
            House h = plainHouse();
            giveAll(h, 100);
            due("a new one", h.tick(g, 0, 1), 1);
            dueAll("of g bytes", new int[] {h.block(0, -1), h.process(0, 1, 1)}, g, g);
        }
        House none = plainHouse();
        due("none", none.tick(250, 0, 0), 0);
        due("the process stays empty", none.process(0, 1, 0), 0);
    }

    private static void sendingsAreCounted() {
        House h = plainHouse();
        giveAll(h, 3);
        h.tick(8, 0, 1);
        due("the first", h.process(0, 1, 0), 1);
        idle(h, 3);
        due("no tick of its own", h.process(0, 1, 0), 1);
        h.tick(0, 0, 4);
        dueAll("the second, that comes", new int[] {h.process(0, 1, 0), h.world(2)}, 2, 2);
    }

    private static void hasComeIfNotLost() {
        House h = plainHouse();
        giveAll(h, 3);
        h.tick(8, 0, 1);
        dueAll("lost", new int[] {h.process(0, 1, 2), h.receiver(1, 0, DATA_CAME)}, 0, 0);
        idle(h, 3);
        h.tick(0, 0, 4);
        dueAll("not lost", new int[] {h.process(0, 1, 2), h.receiver(1, 0, DATA_CAME)}, 1, 1);
    }

    private static void workedOnOnce() {
        House h = plainHouse();
        giveAll(h, 3);
        due("it comes", h.tick(8, 0, 4), 1 + 4);
        idle(h, 3);
        due("it comes again", h.tick(0, 0, 4), 1);
        idle(h, 3);
        due("and again", h.tick(0, 0, 0), 1);
        dueAll("worked on once", new int[] {h.world(6), h.receiver(1, 0, DATA_CAME), h.delivered(1, 0, NEXT)}, 1, 1, 1);
    }

    private static void workedOnInOrder() {
        House h = plainHouse();
        giveAll(h, 120, 119);
        h.tick(250, 0, 0);
        dueAll("pieces 0 and 1: H was never above R", receiverAsked(h, 1, 0, R, H, X, REORDER), 2, 2, 0, 0);
        due("PARTS", h.world(6), 2);
    }

    private static void answers() {
        int[] faults = {0, 1, 4, 5};
        boolean[] isEmptied = {true, false, false, true};
        for (int i = 0; i < 4; i++) {
            House h = plainHouse();
            giveAll(h, 3);
            h.tick(8, 0, faults[i]);
            due("faults " + faults[i], h.process(0, 1, 0), isEmptied[i] ? 0 : 1);
        }
        House ahead = plainHouse();
        giveAll(ahead, 3);
        ahead.tick(8, 0, 4);
        idle(ahead, 3);
        ahead.tick(0, 0, 1);
        due("lost now, but it came ahead: yes", ahead.process(0, 1, 0), 0);
        House turned = plainHouse();
        giveAll(turned, 3);
        turned.tick(8, 0, 4);
        idle(turned, 3);
        turned.tick(0, 0, 5);
        due("it came ahead, turned: no", turned.process(0, 1, 0), 2);
    }

    private static void emptyAfterAYes() {
        House h = plainHouse();
        giveAll(h, 3, 3);
        h.tick(8, 0, 0);
        due("empty", h.process(0, 1, 0), 0);
        idle(h, 3);
        h.tick(8, 0, 0);
        due("a new block goes", h.block(0, 3), 1);
        due("nothing is DROPPED", h.world(5), 0);
    }

    private static void droppedAtTheThird() {
        House h = plainHouse();
        giveAll(h, 3);
        h.tick(8, 0, 1);
        idle(h, 3);
        h.tick(0, 0, 1);
        dueAll("two SENDINGS", new int[] {h.process(0, 1, 0), h.world(5)}, 2, 0);
        idle(h, 3);
        h.tick(0, 0, 1);
        dueAll("three", new int[] {h.process(0, 1, 0), h.world(5)}, 0, 1);
        House yes = plainHouse();
        giveAll(yes, 3);
        yes.tick(8, 0, 1);
        idle(yes, 3);
        yes.tick(0, 0, 1);
        idle(yes, 3);
        yes.tick(0, 0, 0);
        dueAll("a yes at the third", new int[] {yes.process(0, 1, 0), yes.world(5)}, 0, 0);
        House came = plainHouse();
        giveAll(came, 3);
        came.tick(8, 0, 4);
        idle(came, 3);
        came.tick(0, 0, 4);
        idle(came, 3);
        came.tick(0, 0, 4);
        dueAll("it came, but the third answer is no, too", new int[] {came.process(0, 1, 0), came.world(5)}, 0, 1);
    }

    private static void timersGoDown() {
        House h = plainHouse();
        giveAll(h, 3);
        h.tick(8, 20, GONE_1);
        giveAll(h, 3, 3);
        h.tick(8, 0, GONE_0);
        h.tick(8, 0, 0);
        for (int i = 0; i < 7; i++) {
            dueAll("POLL, REORDER, PROHIBIT behind " + i, new int[] {h.sender(0, 0, POLL_TIMER),
                h.receiver(1, 0, REORDER), h.receiver(1, 0, PROHIBIT)}, 10 - i, Math.max(0, 6 - i), Math.max(0, 3 - i));
            idle(h, 1);
        }
        idle(h, 2);
        due("POLL", h.sender(0, 0, POLL_TIMER), 1);
        idle(h, 1);
        due("at 0", h.sender(0, 0, POLL_TIMER), 0);
        House all = new House(3, 1);
        for (int place = 0; place < 6; place++) {
            give(all, place / 3, place % 3, 3, 0);
        }
        all.tick(60, 60, GONE_0 + GONE_1);
        idle(all, 4);
        for (int place = 0; place < 6; place++) {
            due("of each peer and bearer", all.sender(place / 3, place % 3, POLL_TIMER), 6);
        }
    }

    /** A lost piece, and then something WAITING, so that the POLL timer's end brings nothing to AGAIN. */
    private static House waitingAtTheEnd() {
        House h = plainHouse();
        giveAll(h, 5);
        h.tick(20, 0, GONE_0);
        giveAll(h, 100);
        idle(h, 10);
        due("the timer has run", h.sender(0, 0, POLL_TIMER), 0);
        return h;
    }

    private static void askedAtTheEnd() {
        House h = waitingAtTheEnd();
        h.tick(9, 0, 0);
        due("POLL in the next DATA", h.block(0, 2), 128 + 32 + 8);
    }

    /** Piece 0 is in AGAIN by a STATUS with ACK 1; five bytes of it go again. */
    private static void notIfAgainHasBytes() {
        House h = plainHouse();
        giveAll(h, 29);
        h.tick(14, 0, GONE_0);
        h.tick(14, 0, GONE_0);
        h.tick(14, 0, 0);
        idle(h, 5);
        h.tick(0, 2 + 3, 0);
        dueAll("an entry for piece 0", blockOf(h, 1), 0, 3, 1, 1, 0);
        h.tick(10, 0, GONE_0);
        dueAll("five of its bytes are in AGAIN yet", senderAsked(h, 0, 0, AGAIN, POLL_TIMER), 5, 3);
        idle(h, 3);
        dueAll("no more when the timer has run", senderAsked(h, 0, 0, AGAIN, POLL_TIMER), 5, 0);
    }

    private static void notIfSomethingWaits() {
        House h = waitingAtTheEnd();
        dueAll("nothing comes to AGAIN", senderAsked(h, 0, 0, AGAIN, WAITING), 0, 101);
        House none = lostPiece(5);
        idle(none, 1);
        dueAll("nothing WAITING: all of piece A does", senderAsked(none, 0, 0, AGAIN, WAITING), 6, 0);
    }

    private static void yetIfSixteenAreOut() {
        House h = plainHouse();
        giveAll(h, 120);
        for (int i = 0; i < 16; i++) {
            h.tick(7, 0, GONE_0);
        }
        dueAll("16 are out, and more is WAITING", senderAsked(h, 0, 0, S, WAITING, POLL_TIMER), 16, 121 - 48, 10);
        idle(h, 10);
        dueAll("piece A is in AGAIN", senderAsked(h, 0, 0, AGAIN, POLL_TIMER), 3, 0);
        House later = plainHouse();
        giveAll(later, 1);
        later.tick(20, 20, 0);
        giveAll(later, 120);
        for (int i = 0; i < 16; i++) {
            later.tick(7, 0, GONE_0);
        }
        idle(later, 10);
        dueAll("A is 1, which is in AGAIN", senderAsked(later, 0, 0, A, S, AGAIN), 1, 17, 3);
    }

    private static void fiveTriesOfTheTimer() {
        House h = lostPiece(3);
        for (int tries = 1; tries <= 5; tries++) {
            due("not FAILED", h.sender(0, 0, FAILED), 0);
            h.tick(0, 0, 0);
            dueAll("try " + tries, senderAsked(h, 0, 0, AGAIN, FAILED), 4, tries == 5 ? 1 : 0);
            h.tick(20, 0, GONE_0);
            idle(h, 9);
        }
    }

    /** Pieces of five bytes; the faults of each tick tell which ones come. */
    private static House pieces(int... faults) {
        House h = plainHouse();
        giveAll(h, 119);
        for (int f : faults) {
            h.tick(9, 0, f);
        }
        return h;
    }

    private static void msIsX() {
        House h = pieces(GONE_0, GONE_0, 0);
        idle(h, 5);
        dueAll("not yet", receiverAsked(h, 1, 0, MS, X, REORDER), 0, 3, 1);
        idle(h, 1);
        dueAll("MS is X", receiverAsked(h, 1, 0, R, MS, X, REORDER), 0, 3, 3, 0);
        // Piece 1 is late, and comes in tick 10, when MS is 3: X is 3 then, too.
        House late = pieces(GONE_0, 1, 0);
        idle(late, 2);
        late.tick(0, 0, 1);
        idle(late, 3);
        late.tick(0, 0, 0);
        dueAll("it runs again, and X is 3", receiverAsked(late, 1, 0, MS, X, REORDER), 3, 3, 6);
        late.tick(9, 0, 0);
        due("piece 3 comes: MS is above X", late.receiver(1, 0, MS), 4);
        idle(late, 5);
        dueAll("it was not below", receiverAsked(late, 1, 0, MS, X, REORDER), 4, 3, 0);
    }

    private static void msGoesOnAtTheEnd() {
        House h = pieces(GONE_0, 0, 0, 0);
        dueAll("X is 2, H is 4", receiverAsked(h, 1, 0, MS, X, H), 0, 2, 4);
        idle(h, 4);
        dueAll("pieces 2 and 3 are WHOLE", receiverAsked(h, 1, 0, R, MS, X, REORDER), 0, 4, 2, 0);
    }

    private static void wantedAtTheEnd() {
        House h = pieces(GONE_0, 0);
        idle(h, 5);
        due("not yet", h.receiver(1, 0, WANTED), 0);
        idle(h, 1);
        dueAll("without a POLL", receiverAsked(h, 1, 0, WANTED, POLLS), 1, NONE);
        House poll = plainHouse();
        giveAll(poll, 4, 4);
        poll.tick(9, 0, GONE_0);
        poll.tick(9, 0, 0);
        dueAll("POLLS", receiverAsked(poll, 1, 0, WANTED, POLLS), 0, 1);
        idle(poll, 6);
        dueAll("POLLS is below MS then", receiverAsked(poll, 1, 0, WANTED, POLLS), 1, NONE);
    }

    private static void runsAgain() {
        House h = pieces(GONE_0, 0, GONE_0, 0);
        idle(h, 4);
        dueAll("H is above MS", receiverAsked(h, 1, 0, MS, H, X, REORDER), 2, 4, 4, 6);
        House equal = pieces(GONE_0, 0);
        idle(equal, 6);
        dueAll("H is MS", receiverAsked(equal, 1, 0, MS, H, X, REORDER), 2, 2, 2, 0);
    }

    private static void peer0SendsFirst() {
        House h = plainHouse();
        giveAll(h, 3);
        due("peer 1 answers DATA in the same tick", h.tick(20, 20, 0), 15);
        dueAll("which is worked on", senderAsked(h, 0, 0, A, KEPT), 1, 0);
        House other = plainHouse();
        give(other, 1, 0, 3, 0);
        due("peer 0 can't", other.tick(20, 20, 0), 2 + 8);
        due("it does in the next", other.tick(20, 20, 0), 1 + 4);
    }

    /**
     * Piece 0 is lost, but comes late, in tick 49; piece 1 is lost in tick 42. In tick 52 the SENDER is FAILED, then a
     * STATUS confirms piece 0.
     */
    private static void notOfAFailedSender() {
        House h = lostPiece(3);
        for (int tries = 1; tries < 4; tries++) {
            h.tick(8, 0, GONE_0);
            idle(h, 9);
        }
        h.tick(8, 0, 1);
        giveAll(h, 3);
        h.tick(8, 0, GONE_0);
        idle(h, 2);
        h.tick(0, 0, 1);
        idle(h, 3);
        h.tick(0, 0, 0);
        due("piece 0 came", h.receiver(1, 0, R), 1);
        idle(h, 3);
        dueAll("FAILED", senderAsked(h, 0, 0, FAILED, AGAIN), 1, 4);
        h.tick(0, 20, 0);
        dueAll("nothing WAITING or in AGAIN", senderAsked(h, 0, 0, A, S, WAITING, AGAIN), 1, 2, 0, 0);
        idle(h, 2);
        due("the timer doesn't run", h.sender(0, 0, POLL_TIMER), 0);
    }

    private static void aTimerThatRunsGoesOn() {
        House h = plainHouse();
        giveAll(h, 5);
        h.tick(20, 0, GONE_0);
        for (int left = 9; left >= 1; left--) {
            idle(h, 1);
            dueAll("it goes on", senderAsked(h, 0, 0, WAITING, AGAIN, POLL_TIMER), 0, 0, left);
        }
    }

    private static void timerIsNotStarted() {
        House waits = plainHouse();
        giveAll(waits, 9);
        waits.tick(9, 0, 0);
        idle(waits, 1);
        dueAll("something is WAITING", senderAsked(waits, 0, 0, S, WAITING, POLL_TIMER), 1, 5, 0);
        House again = lostPiece(5);
        idle(again, 2);
        dueAll("AGAIN has bytes", senderAsked(again, 0, 0, AGAIN, POLL_TIMER), 6, 0);
        House all = plainHouse();
        giveAll(all, 3);
        all.tick(20, 20, 0);
        idle(all, 1);
        dueAll("A is S", senderAsked(all, 0, 0, A, S, POLL_TIMER), 1, 1, 0);
    }

    /** Three units came, but no STATUS did; behind a renewal piece 0 goes without POLL, then a REPORT comes. */
    private static House takenOut() {
        House h = plainHouse();
        giveAll(h, 3, 3, 3);
        h.tick(50, 0, 0);
        h.renew();
        h.tick(6, 0, GONE_0);
        h.tick(0, 20, 0);
        dueAll("all is taken out", senderAsked(h, 0, 0, S, KEPT, WAITING, POLL_TIMER), 1, 0, 0, 0);
        return h;
    }

    private static void timerIsStarted() {
        House h = takenOut();
        idle(h, 1);
        due("it runs", h.sender(0, 0, POLL_TIMER), 10);
        idle(h, 10);
        due("and brings the piece again", h.sender(0, 0, AGAIN), 2);
    }

    private static void upTo5Times() {
        House h = new House(1, 1);
        for (int i = 1; i <= 7; i++) {
            idle(h, 1);
            due("behind tick " + i, h.sender(0, 0, BUCKET), Math.min(80, 16 * i));
        }
        giveAll(h, 3);
        h.tick(8, 0, 0);
        due("8 bytes go", h.sender(0, 0, BUCKET), 72);
        idle(h, 1);
        due("up to 80 alone", h.sender(0, 0, BUCKET), 80);
        House most = new House(1, 1);
        most.rate(0, 200);
        idle(most, 6);
        due("5 * 200", most.sender(1, 0, BUCKET), 1000);
        House none = plainHouse();
        giveAll(none, 3);
        none.tick(8, 0, 0);
        idle(none, 2);
        due("RATE 0", none.sender(0, 0, BUCKET), -8);
        none.rate(0, 3);
        idle(none, 1);
        due("from below 0", none.sender(0, 0, BUCKET), -5);
    }

    private static void oneAboveStays() {
        House h = new House(1, 1);
        h.rate(0, 100);
        idle(h, 3);
        h.rate(0, 50);
        idle(h, 2);
        due("300 is above 250", h.sender(0, 0, BUCKET), 300);
        h.rate(0, 59);
        idle(h, 2);
        due("300 is above 295", h.sender(0, 0, BUCKET), 300);
        h.rate(0, 60);
        idle(h, 1);
        due("300 is 5 * 60", h.sender(0, 0, BUCKET), 300);
        h.rate(0, 61);
        idle(h, 1);
        due("305 at most", h.sender(0, 0, BUCKET), 305);
        h.rate(0, 0);
        idle(h, 1);
        due("with RATE 0", h.sender(0, 0, BUCKET), 305);
    }

    /** A unit in three pieces, of which the second is missing. */
    private static void holesEndWhatWasBegun() {
        House h = plainHouse();
        giveAll(h, 14, 3);
        h.tick(9, 0, 0);
        h.tick(9, 0, GONE_0);
        h.tick(40, 0, 0);
        due("piece 2 is not HANDED", h.delivered(1, 0, STORED), 0);
        h.renew();
        dueAll("unit 0 is not there, unit 1 is", deliveredAsked(h, 1, 0, NEXT, STORED, DOUBLES), 0, 1, 0);
        h.tick(40, 0, 0);
        dueAll("both are right", deliveredAsked(h, 1, 0, NEXT, SUM), 2, sumOf(sumOf(0, row(14, 0)), row(3, 0)));
        House part = lostPiece(2, 3);
        part.tick(8, 0, 0);
        due("all of a packet came, but not its piece", part.receiver(1, 0, HELD), 3);
        part.renew();
        dueAll("nothing of it is HANDED", deliveredAsked(part, 1, 0, NEXT, STORED), 0, 0);
    }

    /** A REPORT goes first then, whose first byte would end what was begun, too. */
    private static void goneBehindTheLast() {
        House h = plainHouse();
        give(h, 0, 0, 9, 30);
        h.tick(9, 0, 0);
        due("a packet is begun, and no piece behind", h.receiver(1, 0, R) - h.receiver(1, 0, H), 0);
        h.renew();
        h.tick(40, 0, 0);
        dueAll("it comes from its first byte on", deliveredAsked(h, 1, 0, NEXT, SUM), 1, sumOf(0, row(9, 30)));
    }

    private static void receiverAnew() {
        House h = plainHouse();
        giveAll(h, 4);
        h.tick(9, 9, 0);
        giveAll(h, 4, 4);
        h.tick(9, 0, GONE_0);
        h.tick(9, 0, 0);
        int[] asked = {R, H, MS, X, REORDER, PROHIBIT, WANTED, HELD, POLLS};
        dueAll("ahead", receiverAsked(h, 1, 0, asked), 1, 3, 1, 3, 6, 3, 0, 5, 2);
        h.renew();
        dueAll("behind", receiverAsked(h, 1, 0, asked), 0, 0, 0, 0, 0, 0, 0, 0, NONE);
        House wanted = plainHouse();
        giveAll(wanted, 4);
        wanted.tick(9, 0, 0);
        due("WANTED", wanted.receiver(1, 0, WANTED), 1);
        wanted.renew();
        due("nothing", wanted.receiver(1, 0, WANTED), 0);
        due("so no STATUS goes, but a REPORT", wanted.tick(0, 20, 0), 10);
        due("DATA", wanted.block(1, 2), 128 + 32);
    }

    private static void senderAnew() {
        House h = lostPiece(5);
        h.tick(0, 0, 0);
        giveAll(h, 3);
        dueAll("ahead", senderAsked(h, 0, 0, A, S, AGAIN), 0, 1, 6);
        h.renew();
        dueAll("behind", senderAsked(h, 0, 0, A, S, AGAIN), 0, 0, 0);
        h.tick(40, 0, 0);
        dueAll("pieces are numbered from 0", air(h, 0, 2, 4), 128 + 32 + 4, 0);
        House later = plainHouse();
        giveAll(later, 3);
        later.tick(20, 20, 0);
        later.renew();
        dueAll("A was 1", senderAsked(later, 0, 0, A, S), 0, 0);
    }

    private static void askedOff() {
        House h = waitingAtTheEnd();
        h.renew();
        h.tick(9, 0, 0);
        due("no POLL", h.block(0, 2) & 32, 0);
    }

    private static void notFailed() {
        House h = lostPiece(3);
        for (int tries = 1; tries < 5; tries++) {
            h.tick(20, 0, GONE_0);
            idle(h, 9);
        }
        h.tick(20, 0, 0);
        due("FAILED", h.sender(0, 0, FAILED), 1);
        h.renew();
        due("not FAILED", h.sender(0, 0, FAILED), 0);
        h.tick(20, 0, 0);
        due("DATA go", h.delivered(1, 0, NEXT), 1);
        // The tries were those of a piece of before.
        House tries = lostPiece(3);
        for (int i = 1; i < 4; i++) {
            tries.tick(20, 0, GONE_0);
            idle(tries, 9);
        }
        tries.tick(20, 0, GONE_0);
        tries.renew();
        tries.tick(20, 0, GONE_0);
        idle(tries, 10);
        dueAll("its first try", senderAsked(tries, 0, 0, AGAIN, FAILED), 7 - 1, 0);
    }

    /** POLLED was 0 ahead of the renewal; behind it no POLL is made, and a STATUS with ACK 0 stops the timer. */
    private static void polledNoneAgain() {
        House h = plainHouse();
        giveAll(h, 3, 3, 3);
        h.tick(50, 0, 0);
        due("POLL in piece 0", h.sender(0, 0, POLL_TIMER), 10);
        h.renew();
        h.tick(6, 0, GONE_0);
        h.tick(8, 0, 0);
        h.tick(0, 20, 0);
        idle(h, 1);
        dueAll("the REPORT took out what waited", senderAsked(h, 0, 0, S, WAITING, POLL_TIMER), 2, 0, 10);
        idle(h, 3);
        h.tick(0, 2 + 2, 0);
        dueAll("a STATUS with ACK 0", blockOf(h, 1), 0, 2, 0, 0);
        due("none is below it", h.sender(0, 0, POLL_TIMER), 0);
    }

    private static void noDataSinceAPoll() {
        House h = plainHouse();
        giveAll(h, 100);
        for (int i = 0; i < 7; i++) {
            h.tick(9, 0, 0);
        }
        due("the timer runs", h.sender(0, 0, POLL_TIMER), 7);
        h.renew();
        due("it doesn't", h.sender(0, 0, POLL_TIMER), 0);
        int[] heads = new int[4];
        for (int i = 0; i < 4; i++) {
            h.tick(9, 0, 0);
            heads[i] = h.block(0, 2) & 32;
        }
        dueAll("three were made ahead, which don't count", heads, 0, 0, 0, 32);
    }

    private static void processesAnew() {
        House h = plainHouse();
        giveAll(h, 50);
        give(h, 1, 0, 50, 0);
        for (int i = 0; i < 4; i++) {
            h.tick(9, 9, 1 + 2);
        }
        int full = 0;
        for (int k = 0; k < 8; k++) {
            full += h.process(k / 4, k % 4, 0);
        }
        due("each has a block", full, 8);
        h.renew();
        for (int k = 0; k < 8; k++) {
            due("empty", h.process(k / 4, k % 4, 0), 0);
        }
        due("none is DROPPED", h.world(5), 0);
        due("nothing is sent again", h.tick(0, 0, 0), 0);
    }

    private static void epochs() {
        House h = plainHouse();
        due("0 at first", h.world(1), 0);
        for (int e = 1; e <= 300; e++) {
            due("EPOCH", h.renew(), e);
        }
        due("EPOCH", h.world(1), 300);
    }

    private static void waitingAnew() {
        House h = new House(3, 1);
        give(h, 0, 1, 5, 0);
        give(h, 0, 1, 3, 0);
        h.renew();
        for (int peer = 0; peer < 2; peer++) {
            for (int b = 0; b < 3; b++) {
                due("a REPORT, and the units", h.sender(peer, b, WAITING), peer == 0 && b == 1 ? 2 + 6 + 4 : 2);
            }
        }
        h.renew();
        due("one REPORT alone", h.sender(0, 1, WAITING), 2 + 6 + 4);
        House order = plainHouse();
        giveAll(order, 1, 2, 3);
        order.tick(5, 0, 0);
        due("a byte is gone", order.sender(0, 0, WAITING), 2 + 3 + 4 - 1);
        order.renew();
        due("all anew", order.sender(0, 0, WAITING), 2 + 2 + 3 + 4);
        order.tick(40, 0, 0);
        House hole = plainHouse();
        giveAll(hole, 1, 2, 3);
        hole.tick(6, 0, GONE_0);
        hole.tick(7, 0, 0);
        hole.renew();
        hole.tick(0, 20, 0);
        due("unit 1 is confirmed", hole.sender(0, 0, KEPT), 2);
        hole.renew();
        due("units 0 and 2 alone", hole.sender(0, 0, WAITING), 2 + 2 + 4);
        dueAll("the REPORT, then 0, 1, 2", air(order, 0, 2, 7), 128 + 32 + 4, 0, 128 + 2, 128 + 2, 3);
        dueAll("their first bytes", new int[] {order.block(0, 7), order.block(0, 9), order.block(0, 11), order.block(0, 14)},
            0, 128, 129, 130);
    }

    /** Units of peer 1 that RECEIVER(0, 0) is HANDED as the link is made anew stand in its REPORT. */
    private static void receiversFirst() {
        for (int peer = 0; peer < 2; peer++) {
            House h = plainHouse();
            give(h, peer, 0, 1, 7);
            give(h, peer, 0, 1, 9);
            h.tick(6, 6, peer == 0 ? GONE_0 : GONE_1);
            h.tick(6, 6, 0);
            h.renew();
            due("STORED", h.delivered(1 - peer, 0, STORED), 1);
            due("the REPORT has a byte of bits", h.sender(1 - peer, 0, WAITING), 3);
            due("both units are KEPT", h.sender(peer, 0, KEPT), 2);
            h.tick(40, 40, 0);
            int sum = sumOf(sumOf(0, row(1, 7)), row(1, 9));
            due("deciphered by the KEYS of their EPOCHS", h.delivered(1 - peer, 0, SUM), sum);
        }
    }
}
