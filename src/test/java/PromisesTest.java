/** Each promise of the document, by runs made by hand; what is due was worked out from the document's words. */
public final class PromisesTest extends Bench {
    public static void main(String[] args) {
        promise1NewObject();
        promise2Feed();
        promise3End();
        promise4Send();
        promise5Rate();
        promise5SharesOfABlock();
        promise6Tick();
        promise6LostAndTurned();
        promise7Renew();
        promise7RenewWithHoles();
        promise8Block();
        promise8Lengths();
        promise8Ciphers();
        promise9Sender();
        promise9PartsAndRuns();
        promise9StatusOfManyRuns();
        promise9StatusOfManyPieces();
        promise9Fails();
        promise9Polls();
        promise10Receiver();
        promise11Delivered();
        promise12Unit();
        promise13Process();
        promise14World();
        finish();
    }

    private static void promise1NewObject() {
        int[][] cases = {{1, 1}, {2, 2}, {3, 3}, {0, 2}, {4, 2}, {-1, 2}, {Integer.MAX_VALUE, 2}, {Integer.MIN_VALUE, 2}};
        for (int[] c : cases) {
            House h = new House(c[0], 7);
            for (int b = 0; b < 5; b++) {
                due("bearer " + b + " of a house made with " + c[0], h.sender(1, b, 0), b < c[1] ? 0 : NONE);
            }
        }
        House h = new House(3, -9);
        dueAll("a new sender", senderAsked(h, 1, 2, upTo(12)), 0, 0, 0, 0, 0, 0, 0, 0, 0, 0, 0, 0);
        dueAll("a new receiver", receiverAsked(h, 0, 1, upTo(12)), 0, 0, 0, 0, 0, 0, 0, 0, 0, 0, 0, NONE);
        dueAll("nothing delivered", deliveredAsked(h, 0, 1, upTo(6)), 0, 0, 0, 0, 0, 0);
        dueAll("a new world", worldAsked(h), 0, 0, 0, 0, 0, 0, 0);
        due("a new process", h.process(0, 0, 0), 0);
        due("no block", h.block(0, -1), NONE);
        due("an empty tape", h.end(1), NONE);
        due("NONE", BearerHouse.NONE, -1);
    }

    private static void promise2Feed() {
        House h = plainHouse();
        for (int i = 1; i <= 6; i++) {
            due("feed " + i, h.feed(i, 2, 3, 4, 5), 20 * i);
        }
        due("feed over 120", h.feed(1, 2, 3, 4, 5), NONE);
        due("the tape stays", h.end(101), 101);
        due("feed over 120 by one", h.feed(1, 2, 3, 4, 5), NONE);
        due("the tape stays as it is", h.end(102), NONE);
        due("end", h.end(100), 100);
        due("feed up to 120", h.feed(0x80FF0102, -1, 0, 0x0A0B0C0D, 0x7F000001), 120);
        due("send", h.send(0, 0), 0);
        h.tick(250, 0, 0);
        int[] last = new int[20];
        for (int i = 0; i < 20; i++) {
            last[i] = h.unit(1, 0, 100 + i);
        }
        dueAll("the highest byte of each comes first", last, 128, 255, 1, 2, 255, 255, 255, 255, 0, 0, 0, 0,
            10, 11, 12, 13, 127, 0, 0, 1);
        due("the first of the first", h.unit(1, 0, 3), 1);
        due("the tape is empty behind a send", h.feed(0, 0, 0, 0, 0), 20);
    }

    private static void promise3End() {
        House h = plainHouse();
        due("end(0) of an empty tape", h.end(0), 0);
        due("end(1) of an empty tape", h.end(1), NONE);
        h.feed(0x01020304, 0x05060708, 0, 0, 0);
        due("end(-1)", h.end(-1), NONE);
        due("end(21)", h.end(21), NONE);
        due("end(MIN)", h.end(Integer.MIN_VALUE), NONE);
        due("end(20)", h.end(20), 20);
        due("end(3)", h.end(3), 3);
        due("end(4)", h.end(4), NONE);
        due("feed behind", h.feed(0x55000000, 0, 0, 0, 0), 23);
        due("end(4) now", h.end(4), 4);
        h.send(0, 0);
        h.tick(100, 0, 0);
        dueAll("what stayed", new int[] {h.unit(1, 0, 0), h.unit(1, 0, 2), h.unit(1, 0, 3), h.unit(1, 0, 4)},
            1, 3, 0x55, NONE);
        h.feed(1, 2, 3, 4, 5);
        due("end(0)", h.end(0), 0);
        due("nothing to send", h.send(0, 0), NONE);
    }

    private static void promise4Send() {
        House h = new House(2, 3);
        due("an empty tape", h.send(0, 0), NONE);
        h.feed(1, 2, 3, 4, 5);
        int[][] none = {{-1, 0}, {2, 0}, {0, -1}, {0, 2}, {1, 3}, {Integer.MIN_VALUE, Integer.MAX_VALUE}};
        for (int[] c : none) {
            due("send(" + c[0] + ", " + c[1] + ")", h.send(c[0], c[1]), NONE);
        }
        due("the tape is kept", h.end(20), 20);
        due("send(1, 1)", h.send(1, 1), 0);
        due("WAITING", h.sender(1, 1, 3), 21);
        due("the tape is gone", h.send(1, 1), NONE);
        for (int i = 0; i < 24; i++) {
            due("unit " + i, give(h, 0, 1, 1, i), i);
        }
        due("a COUNT of L + 24", give(h, 0, 1, 5, 0), NONE);
        due("the tape stays", h.end(5), 5);
        due("nothing changes", h.sender(0, 1, 11), 24);
        due("WAITING is as it was", h.sender(0, 1, 3), 48);
        due("another sender takes it", h.send(0, 0), 0);
        h.rate(0, 0);
        h.rate(1, 0);
        h.tick(250, 0, 0);
        due("still KEPT", h.sender(0, 1, 2), 24);
        h.tick(0, 250, 0);
        due("all confirmed", h.sender(0, 1, 2), 0);
        due("the next COUNT", give(h, 0, 1, 1, 9), 24);
    }

    private static void promise5Rate() {
        House h = new House(2, 3);
        int[][] cases = {{0, 0, 1}, {1, 200, 1}, {0, 201, 0}, {0, -1, 0}, {2, 5, 0}, {-1, 5, 0}, {Integer.MAX_VALUE, 5, 0}};
        for (int[] c : cases) {
            due("rate(" + c[0] + ", " + c[1] + ")", h.rate(c[0], c[1]) ? 1 : 0, c[2]);
        }
        h.tick(0, 0, 0);
        due("rate 0", h.sender(0, 0, 7), 0);
        due("rate 200 at peer 0", h.sender(0, 1, 7), 200);
        due("rate 200 at peer 1", h.sender(1, 1, 7), 200);
        h.rate(1, 30);
        due("the BUCKET stays", h.sender(1, 1, 7), 200);
        h.tick(0, 0, 0);
        due("one above stays", h.sender(1, 1, 7), 200);
        h.rate(0, 7);
        idle(h, 4);
        due("four times", h.sender(1, 0, 7), 28);
        idle(h, 4);
        due("five times at most", h.sender(1, 0, 7), 35);
        h.rate(0, 8);
        h.tick(0, 0, 0);
        due("up to 5 * RATE", h.sender(1, 0, 7), 40);
        House first = new House(1, 3);
        first.tick(0, 0, 0);
        due("RATE at first", first.sender(0, 0, 7), 16);
    }

    private static void promise5SharesOfABlock() {
        House h = new House(3, 3);
        h.rate(0, 10);
        h.rate(1, 2);
        h.rate(2, 20);
        for (int b = 0; b < 3; b++) {
            give(h, 0, b, 100, 0);
        }
        due("a block", h.tick(40, 0, 0), 5);
        int[] block = blockOf(h, 0);
        dueAll("PART of bearer 0 by its BUCKET", part(block, 0, 4), 0, 8, 136, 0);
        dueAll("PART of bearer 2 by its BUCKET", part(block, 10, 14), 2, 18, 136, 0);
        dueAll("PART of bearer 0, of what is left", part(block, 30, 34), 0, 8, 128 + 16 + 8, 1);
        due("size", block.length, 40);
        dueAll("BUCKETS", new int[] {h.sender(0, 0, 7), h.sender(0, 1, 7), h.sender(0, 2, 7)}, -10, 2, 0);
        h.tick(5, 0, 0);
        // 4 in its BUCKET give bearer 1 two bytes, too few for DATA; bearer 0 has 0, bearer 2 has 20.
        dueAll("the block goes to who has a BUCKET", part(blockOf(h, 0), 0, 4), 2, 3, 152, 1);
        dueAll("BUCKETS then", new int[] {h.sender(0, 0, 7), h.sender(0, 1, 7), h.sender(0, 2, 7)}, 0, 4, 15);
        h.tick(4, 0, 0);
        due("no block of 4 bytes", h.block(0, -1), NONE);
    }

    private static void promise6Tick() {
        House h = plainHouse();
        int[][] none = {{-1, 0}, {251, 0}, {0, -1}, {0, 251}, {Integer.MIN_VALUE, 0}, {0, Integer.MAX_VALUE}};
        give(h, 0, 0, 10, 1);
        for (int[] c : none) {
            due("tick(" + c[0] + ", " + c[1] + ", 0)", h.tick(c[0], c[1], 0), NONE);
        }
        due("no tick", h.world(0), 0);
        due("nothing happened", h.sender(0, 0, 3), 11);
        due("no room", h.tick(0, 0, 15), 0);
        due("4 bytes", h.tick(4, 4, 0), 0);
        due("nothing lost or turned without a block", h.world(3) + h.world(4), 0);
        due("5 bytes are a block", h.tick(5, 250, 0), 5);
        dueAll("of one byte", blockOf(h, 0), 0, 3, 136, 0, 128);
        give(h, 1, 0, 3, 1);
        due("both", h.tick(250, 250, 16 + 32 + 1024), 15);
        due("the highest bits mean nothing", h.tick(250, 250, Integer.MIN_VALUE), 5);
        due("ticks", h.world(0), 5);
    }

    private static void promise6LostAndTurned() {
        House h = plainHouse();
        give(h, 0, 0, 3, 1);
        due("tick 1: lost", h.tick(20, 0, 1), 1);
        due("tick 2", h.tick(20, 0, 0), 0);
        idle(h, 2);
        due("tick 5: sent again whatever g, lost", h.tick(0, 0, 1), 1);
        due("its size is as it was", h.block(0, -1), 20);
        idle(h, 3);
        due("tick 9: came, the answer is turned, and it was the third", h.tick(0, 0, 4), 5);
        due("DROPPED", h.world(5), 1);
        due("yet it came", h.delivered(1, 0, 0), 1);
        idle(h, 3);
        due("tick 13: empty", h.tick(0, 0, 0), 0);

        House k = plainHouse();
        give(k, 1, 0, 3, 1);
        due("came, turned", k.tick(0, 20, 8), 10);
        idle(k, 3);
        due("not for the first time", k.tick(0, 0, 0), 2);
        due("worked on once", k.world(6), 1);
        due("DATA came once", k.receiver(0, 0, 9), 1);
        give(k, 1, 0, 3, 1);
        due("lost, turned: the process is empty", k.tick(0, 20, 2 + 8), 2);
        due("empty", k.process(1, 2, 0), 0);
        due("not DROPPED", k.world(5), 0);
        idle(k, 3);
        due("nothing sent again", k.tick(0, 0, 0), 0);
        due("nor delivered", k.delivered(0, 0, 0), 1);
    }

    private static void promise7Renew() {
        House h = new House(2, 99);
        give(h, 0, 0, 10, 1);
        give(h, 0, 0, 20, 1);
        h.tick(14, 0, 2);
        h.tick(14, 0, 1);
        due("a process has a block", h.process(0, 2, 0), 1);
        due("EPOCH", h.renew(), 1);
        due("all processes are empty", h.process(0, 2, 0) + h.process(0, 2, 1) + h.process(0, 2, 2), 0);
        dueAll("the sender", senderAsked(h, 0, 0, upTo(12)), 0, 0, 2, 2 + 11 + 21, 0, 0, 0, 4, 2, 0, 0, 2);
        dueAll("the receiver", receiverAsked(h, 1, 0, upTo(12)), 0, 0, 0, 0, 0, 0, 0, 0, 0, 1, 0, NONE);
        due("a REPORT waits on each bearer", h.sender(1, 1, 3), 2);
        due("EPOCH 2", h.renew(), 2);
        due("one REPORT alone", h.sender(0, 0, 3), 34);
        h.tick(250, 0, 0);
        due("delivered", h.delivered(1, 0, 0), 2);
        due("the peer has not told so yet", h.sender(0, 0, 2), 2);
        due("EPOCH 3", h.renew(), 3);
        due("the REPORT has NEXT", h.sender(1, 0, 3), 2);
        h.tick(0, 250, 0);
        due("confirmed by the REPORT", h.sender(0, 0, 2), 0);
        due("their packets are taken out", h.sender(0, 0, 3), 2);
        due("world", h.world(1), 3);
    }

    private static void promise7RenewWithHoles() {
        House h = plainHouse();
        for (int i = 0; i < 4; i++) {
            give(h, 0, 0, 5, 10 * i);
        }
        h.tick(10, 0, GONE_0);
        h.tick(10, 0, 0);
        h.tick(10, 0, GONE_0);
        h.tick(8, 0, 0);
        due("bytes that wait to be handed", h.receiver(1, 0, 7), 6 + 4);
        due("no unit yet", h.delivered(1, 0, 3), 0);
        h.renew();
        dueAll("unit 1 is STORED, unit 3 is not", deliveredAsked(h, 1, 0, upTo(6)), 0, 0, 0, 1, 0, 0);
        due("its REPORT has a byte of bits", h.sender(1, 0, 3), 3);
        due("all is KEPT", h.sender(0, 0, 2), 4);
        due("all waits again", h.sender(0, 0, 3), 2 + 4 * 6);
        // Peer 0: the REPORT, unit 0 and a byte of unit 1; then the other REPORT confirms unit 1.
        h.tick(2 + 2 + 2 + 2 + 6 + 1, 20, 0);
        due("unit 1 is confirmed, but a byte of it was gone", h.sender(0, 0, 2), 3);
        due("so the rest of it waits", h.sender(0, 0, 3), 5 + 6 + 6);
        due("unit 0 came, 1 was there", h.delivered(1, 0, 0), 2);
        dueAll("peer 1's block", part(blockOf(h, 1), 0, 7), 0, 5, 128 + 32, 0, 0, 0, 128);
        h.tick(60, 0, 0);
        due("unit 1 is a DOUBLE", h.delivered(1, 0, 2), 1);
        due("all came", h.delivered(1, 0, 0), 4);
        due("the last one", h.unit(1, 0, 0), 30);

        House k = plainHouse();
        for (int i = 0; i < 3; i++) {
            give(k, 0, 0, 5, 10 * i);
        }
        k.tick(10, 0, GONE_0);
        k.tick(10, 0, 0);
        k.renew();
        k.tick(0, 20, 0);
        due("a 1 confirms", k.sender(0, 0, 2), 2);
        due("and takes the packet out", k.sender(0, 0, 3), 2 + 6 + 6);
    }

    private static void promise8Block() {
        House h = plainHouse();
        give(h, 0, 0, 4, 200);
        h.tick(16, 16, 0);
        int[] packet = packet(row(4, 200), 1234, 0, 0, 0, 0);
        dueAll("DATA and filling", blockOf(h, 0), 0, 7, 128 + 32, 0, packet[0], packet[1], packet[2], packet[3],
            packet[4], 255, 0, 0, 0, 0, 0, 0);
        dueAll("STATUS and filling", blockOf(h, 1), 0, 2, 0, 1, 255, 0, 0, 0, 0, 0, 0, 0, 0, 0, 0, 0);
        due("block(0, 16)", h.block(0, 16), NONE);
        due("block(0, -2)", h.block(0, -2), NONE);
        due("block(0, MIN)", h.block(0, Integer.MIN_VALUE), NONE);
        due("block(0, MAX)", h.block(0, Integer.MAX_VALUE), NONE);
        due("block(2, 0)", h.block(2, 0), NONE);
        due("block(-1, -1)", h.block(-1, -1), NONE);
        h.renew();
        due("still the latest tick's", h.block(0, 2), 160);
        h.tick(300, 0, 0);
        due("no tick: still the same", h.block(0, -1), 16);
        h.tick(0, 0, 0);
        due("none in the latest tick", h.block(0, -1), NONE);
        due("nor a byte", h.block(0, 0), NONE);
        give(h, 0, 0, 4, 0);
        // The REPORT's two bytes stand ahead of the unit.
        h.tick(2 + 2 + 1 + 2 + 5, 0, 0);
        dueAll("a block that is full", part(blockOf(h, 0), 0, 8), 0, 10, 128 + 32 + 4, 0, 2, 0, 0, 129);
        due("has no 255", h.block(0, -1), 12);
    }

    private static void promise8Lengths() {
        House h = plainHouse();
        give(h, 0, 0, 2, 0);
        give(h, 0, 0, 3, 0);
        give(h, 0, 0, 4, 0);
        h.tick(30, 0, 0);
        int[] block = blockOf(h, 0);
        dueAll("two LENGTHS", part(block, 0, 7), 0, 16, 128 + 32 + 4, 0, 128 + 3, 4, 128);
        dueAll("the other packets' first bytes", new int[] {block[9], block[13]}, 129, 130);
        due("all came", h.delivered(1, 0, 0), 3);

        House k = plainHouse();
        give(k, 0, 0, 2, 0);
        give(k, 0, 0, 2, 0);
        k.tick(2 + 6, 0, 0);
        dueAll("a byte behind a packet's last costs two", part(blockOf(k, 0), 0, 5), 0, 5, 128, 0, 128);
        House m = plainHouse();
        give(m, 0, 0, 2, 0);
        give(m, 0, 0, 2, 0);
        m.tick(2 + 7, 0, 0);
        dueAll("and has room here", blockOf(m, 0)[8] == 129 ? part(blockOf(m, 0), 0, 5) : new int[0],
            0, 7, 128 + 8 + 4, 0, 3);
        House n = plainHouse();
        for (int i = 0; i < 3; i++) {
            give(n, 0, 0, 120, 0);
        }
        n.tick(250, 0, 0);
        due("a field has 240 bytes at most", n.block(0, 1), 2 + 1 + 240);
        dueAll("there is room for one byte more", part(blockOf(n, 0), 245, 249), 0, 3, 128 + 16 + 8, 1);
        due("what waits", n.sender(0, 0, 3), 3 * 121 - 240 - 1);
    }

    private static void promise8Ciphers() {
        int seed = 0xF1E2D3C4;
        for (int place = 0; place < 6; place++) {
            int peer = place / 3;
            int bearer = place % 3;
            House h = new House(3, seed);
            for (int b = 0; b < 3; b++) {
                h.rate(b, 200);
            }
            for (int epoch = 0; epoch < 3; epoch++) {
                int count = give(h, peer, bearer, 60, 7 * epoch);
                h.tick(110, 110, 0);
                int[] packet = packet(row(60, 7 * epoch), seed, epoch, count, peer, bearer);
                due("it stands in the block whole", contains(blockOf(h, peer), packet), true);
                due("delivered", h.delivered(1 - peer, bearer, 0), count + 1);
                h.tick(110, 110, 0);
                h.renew();
            }
        }
    }

    private static boolean contains(int[] row, int[] some) {
        for (int i = 0; i + some.length <= row.length; i++) {
            if (java.util.Arrays.equals(part(row, i, i + some.length), some)) {
                return true;
            }
        }
        return false;
    }

    private static void promise9Sender() {
        House h = plainHouse();
        due("sender(2, 0, 0)", h.sender(2, 0, 0), NONE);
        due("sender(-1, 0, 0)", h.sender(-1, 0, 0), NONE);
        due("sender(0, 1, 0)", h.sender(0, 1, 0), NONE);
        due("sender(0, -1, 0)", h.sender(0, -1, 0), NONE);
        due("sender(0, 0, -1)", h.sender(0, 0, -1), NONE);
        due("sender(0, 0, 12)", h.sender(0, 0, 12), NONE);
        due("sender(0, 0, MIN)", h.sender(0, 0, Integer.MIN_VALUE), NONE);
        give(h, 0, 0, 30, 0);
        give(h, 0, 0, 10, 0);
        h.tick(24, 0, 0);
        h.tick(24, 0, 0);
        // 20 bytes, then 11 and 7 with a LENGTH and 2 ahead of them: 20 with the LENGTH + 2.
        dueAll("two pieces", senderAsked(h, 0, 0, upTo(12)), 0, 2, 2, 3, 0, 0, 0, -24 - 24, 2, 0, 0, 2);
        h.tick(24, 20, 0);
        dueAll("all out, with POLL, confirmed at once", senderAsked(h, 0, 0, upTo(12)),
            3, 3, 0, 0, 0, 0, 0, -48 - 7, 3, 0, 1, 2);
        due("the STATUS goes off the BUCKET, too", h.sender(1, 0, 7), -4);
    }

    private static void promise9PartsAndRuns() {
        House h = plainHouse();
        give(h, 0, 0, 20, 0);
        h.tick(25, 0, GONE_0);
        due("the POLL timer runs", h.sender(0, 0, 5), 10);
        idle(h, 9);
        due("nearly at its end", h.sender(0, 0, 5), 1);
        h.tick(10, 0, 0);
        int[] first = blockOf(h, 0);
        dueAll("a PART of five bytes with POLL", part(first, 0, 6), 0, 8, 128 + 64 + 32 + 8, 0, 0, 128);
        dueAll("the sender", senderAsked(h, 0, 0, upTo(12)), 0, 1, 1, 0, 16, 10, 0, -25 - 10, 2, 1, 0, 1);
        h.tick(10, 0, GONE_0);
        dueAll("the next five", part(blockOf(h, 0), 0, 5), 0, 8, 128 + 64 + 16 + 8, 0, 5);
        h.tick(25, 0, 0);
        dueAll("up to the end", part(blockOf(h, 0), 0, 5), 0, 14, 128 + 64 + 32 + 16, 128, 10);
        dueAll("the receiver", receiverAsked(h, 1, 0, upTo(12)), 0, 1, 0, 1, 4, 0, 0, 16, 0, 2, 0, 0);
        idle(h, 3);
        h.tick(0, 20, 0);
        dueAll("a STATUS of one run", part(blockOf(h, 1), 0, 8), 0, 5, 1, 1, 128, 5, 9, 255);
        dueAll("the run is in AGAIN", senderAsked(h, 0, 0, upTo(12)), 0, 1, 1, 0, 5, 0, 0, -25 - 10 - 10 - 16, 4, 3, 1, 1);
        h.tick(5, 0, 0);
        due("3 bytes are too few for a PART", h.block(0, -1), NONE);
        h.tick(6, 0, 0);
        dueAll("a PART of one byte", part(blockOf(h, 0), 0, 5), 0, 4, 128 + 64 + 16 + 8, 0, 5);
        h.tick(20, 0, 0);
        due("delivered", h.delivered(1, 0, 0), 1);
        due("its bytes", h.unit(1, 0, 19), 19);

        House k = plainHouse();
        give(k, 0, 0, 20, 0);
        k.tick(25, 0, GONE_0);
        idle(k, 9);
        k.tick(10, 0, 0);
        idle(k, 5);
        k.tick(0, 20, 0);
        dueAll("a run up to an end that isn't known", part(blockOf(k, 1), 0, 7), 0, 5, 1, 1, 128, 5, 255);
        k.tick(25, 0, 0);
        due("its piece comes in full then", k.delivered(1, 0, 0), 1);
    }

    /** Every second byte of a piece is missing, of which there are runs then; block of peer 1 with its STATUS. */
    private static int[] statusOfRuns(int runs, int g) {
        House h = plainHouse();
        int packet = 2 * runs + 1;
        give(h, 0, 0, packet - 1, 0);
        h.tick(packet + 4, 0, GONE_0);
        idle(h, 9);
        for (int i = 0; i < packet; i++) {
            h.tick(6, 0, i % 2 == 0 ? 0 : GONE_0);
        }
        due("all of it was made", h.sender(0, 0, 4), 0);
        due("what came", h.receiver(1, 0, 7), runs + 1);
        h.tick(0, g, 0);
        due("what is missing is in AGAIN", h.sender(0, 0, 4), h.block(1, 2));
        return blockOf(h, 1);
    }

    private static void promise9StatusOfManyRuns() {
        int[] some = statusOfRuns(15, 49);
        dueAll("15 entries", part(some, 0, 4), 0, 47, 15, 1);
        for (int i = 0; i < 15; i++) {
            dueAll("entry " + i, part(some, 4 + 3 * i, 7 + 3 * i), 128, 2 * i + 1, 2 * i + 1);
        }
        dueAll("16 do not go", part(statusOfRuns(16, 250), 0, 5), 0, 2, 0, 0, 255);
        dueAll("nor 15 in a byte less", part(statusOfRuns(15, 48), 0, 5), 0, 2, 0, 0, 255);
    }

    private static void promise9StatusOfManyPieces() {
        for (int g = 18; g <= 19; g++) {
            House h = plainHouse();
            give(h, 0, 0, 120, 0);
            for (int i = 0; i < 16; i++) {
                h.tick(10, 0, i < 15 ? GONE_0 : 0);
            }
            idle(h, 5);
            h.tick(0, g, 0);
            int[] status = part(blockOf(h, 1), 0, 4);
            if (g == 19) {
                dueAll("15 pieces of which nothing came", status, 0, 17, 15, 16);
                due("the last entry", h.block(1, 18), 14);
                due("all but the last one are in AGAIN", h.sender(0, 0, 4), 15 * 6);
            } else {
                dueAll("14 with ACK the next one", status, 0, 16, 14, 14);
                due("14 are in AGAIN", h.sender(0, 0, 4), 14 * 6);
            }
        }
    }

    private static void promise9Fails() {
        House h = plainHouse();
        give(h, 0, 0, 3, 0);
        h.tick(20, 0, GONE_0);
        for (int tries = 1; tries <= 5; tries++) {
            due("not FAILED", h.sender(0, 0, 6), 0);
            idle(h, 9);
            h.tick(20, 0, GONE_0);
        }
        due("FAILED at the fifth", h.sender(0, 0, 6), 1);
        due("so it was not made again", h.sender(0, 0, 9), 4);
        due("and is in AGAIN", h.sender(0, 0, 4), 4);
        due("it takes units yet", give(h, 0, 0, 3, 0), 1);
        give(h, 1, 0, 3, 0);
        due("and makes a STATUS", h.tick(20, 20, 0) + h.tick(20, 0, 0), 10 + 5);
        due("but no DATA", h.sender(0, 0, 8), 5);
        h.renew();
        due("not FAILED", h.sender(0, 0, 6), 0);
        h.tick(40, 0, 0);
        due("delivered", h.delivered(1, 0, 0), 2);
    }

    private static void promise9Polls() {
        House h = plainHouse();
        give(h, 0, 0, 120, 0);
        int[] heads = new int[9];
        for (int i = 0; i < heads.length; i++) {
            h.tick(10, 0, 0);
            heads[i] = h.block(0, 2);
        }
        dueAll("every fourth has POLL", heads, 136, 152, 152, 152 + 32, 152, 152, 152, 152 + 32, 152);
        for (int i = 9; i < 16; i++) {
            h.tick(10, 0, 0);
        }
        due("the sixteenth, too", h.block(0, 2), 152 + 32);
        due("S - A is 16", h.sender(0, 0, 1) - h.sender(0, 0, 0), 16);
        due("no more goes out", h.tick(250, 0, 0), 0);
        idle(h, 8);
        due("A is not yet in AGAIN", h.sender(0, 0, 4), 0);
        h.tick(0, 0, 0);
        due("the POLL timer ends: piece A is", h.sender(0, 0, 4), 6);
        h.tick(10, 0, 0);
        dueAll("it goes out as at first, with POLL", part(blockOf(h, 0), 0, 5), 0, 8, 136 + 32, 0, 128);
        due("an old one with POLL wants a STATUS", h.receiver(1, 0, 6), 1);
        due("and counts as without new bytes", h.receiver(1, 0, 10), 1);
        h.tick(0, 10, 0);
        due("A", h.sender(0, 0, 0), 16);
        due("the POLL timer stops", h.sender(0, 0, 5), 0);
    }

    private static void promise10Receiver() {
        House h = plainHouse();
        int[][] none = {{2, 0, 0}, {-1, 0, 0}, {0, 1, 0}, {0, -1, 0}, {0, 0, -1}, {0, 0, 12}, {0, 0, Integer.MAX_VALUE}};
        for (int[] c : none) {
            due("receiver(" + c[0] + ", " + c[1] + ", " + c[2] + ")", h.receiver(c[0], c[1], c[2]), NONE);
        }
        give(h, 0, 0, 120, 0);
        h.tick(14, 0, GONE_0);
        h.tick(14, 0, 0);
        dueAll("piece 0 is missing", receiverAsked(h, 1, 0, upTo(12)), 0, 2, 0, 2, 6, 0, 0, 10, 0, 1, 0, NONE);
        h.tick(14, 0, GONE_0);
        h.tick(14, 0, 0);
        dueAll("and piece 2; POLL in 3", receiverAsked(h, 1, 0, upTo(12)), 0, 4, 0, 2, 4, 0, 0, 20, 0, 2, 0, 3);
        idle(h, 3);
        h.tick(0, 0, 0);
        dueAll("the REORDER timer ended", receiverAsked(h, 1, 0, upTo(12)), 0, 4, 2, 4, 6, 0, 1, 20, 0, 2, 0, 3);
        h.tick(0, 20, 0);
        dueAll("a STATUS", part(blockOf(h, 1), 0, 6), 0, 3, 1, 2, 0, 255);
        dueAll("PROHIBIT runs", receiverAsked(h, 1, 0, upTo(12)), 0, 4, 2, 4, 5, 5, 0, 20, 1, 2, 0, 3);
        due("piece 1 is confirmed, 0 isn't", h.sender(0, 0, 0), 0);
        due("piece 0 is in AGAIN", h.sender(0, 0, 4), 10);
        h.tick(14, 20, 0);
        dueAll("piece 0 came", receiverAsked(h, 1, 0, upTo(12)), 2, 4, 2, 4, 4, 4, 0, 10, 1, 3, 0, 3);
        idle(h, 4);
        dueAll("MS passes POLLS", receiverAsked(h, 1, 0, upTo(12)), 2, 4, 4, 4, 0, 0, 1, 10, 1, 3, 0, NONE);
        h.tick(0, 20, 0);
        dueAll("a STATUS again", part(blockOf(h, 1), 0, 6), 0, 3, 1, 4, 2, 255);
        h.tick(14, 20, 0);
        // The POLL timer, which the POLL in piece 3 began, has ended: there was POLL in it.
        dueAll("all came", receiverAsked(h, 1, 0, upTo(12)), 4, 4, 4, 4, 0, 4, 1, 0, 2, 4, 0, NONE);
    }

    private static void promise11Delivered() {
        House h = plainHouse();
        int[][] none = {{2, 0, 0}, {-1, 0, 0}, {0, 1, 0}, {0, -1, 0}, {0, 0, -1}, {0, 0, 6}, {0, 0, Integer.MIN_VALUE}};
        for (int[] c : none) {
            due("delivered(" + c[0] + ", " + c[1] + ", " + c[2] + ")", h.delivered(c[0], c[1], c[2]), NONE);
        }
        give(h, 1, 0, 2, 250);
        give(h, 1, 0, 1, 9);
        h.tick(0, 60, 0);
        int sum = 31 * (31 * (31 * 0 + 2) + 250) + 251;
        sum = 31 * (31 * sum + 1) + 9;
        dueAll("two units", deliveredAsked(h, 0, 0, upTo(6)), 2, 3, 0, 0, sum, 1);
        dueAll("none at the other peer", deliveredAsked(h, 1, 0, upTo(6)), 0, 0, 0, 0, 0, 0);
        h.renew();
        h.tick(0, 60, 0);
        dueAll("they come twice", deliveredAsked(h, 0, 0, upTo(6)), 2, 3, 2, 0, sum, 1);
        for (int i = 2; i < 90; i++) {
            give(h, 1, 0, 1, i);
            h.tick(60, 60, 0);
            sum = sumOf(sum, new int[] {i});
        }
        dueAll("COUNTS and numbers go over 63, and the sum wraps", deliveredAsked(h, 0, 0, upTo(6)), 90, 91, 2, 0, sum, 1);
    }

    private static void promise12Unit() {
        House h = new House(2, 5);
        due("none yet", h.unit(1, 1, 0), NONE);
        give(h, 0, 1, 3, 40);
        h.tick(50, 50, 0);
        dueAll("its bytes", new int[] {h.unit(1, 1, -1), h.unit(1, 1, 0), h.unit(1, 1, 2), h.unit(1, 1, 3)},
            NONE, 40, 42, NONE);
        due("unit(1, 0, 0)", h.unit(1, 0, 0), NONE);
        due("unit(0, 1, 0)", h.unit(0, 1, 0), NONE);
        due("unit(2, 1, 0)", h.unit(2, 1, 0), NONE);
        due("unit(1, 2, 0)", h.unit(1, 2, 0), NONE);
        due("unit(1, 1, MAX)", h.unit(1, 1, Integer.MAX_VALUE), NONE);
        due("unit(1, 1, MIN)", h.unit(1, 1, Integer.MIN_VALUE), NONE);
        give(h, 0, 1, 1, 90);
        h.tick(50, 50, 0);
        dueAll("the latest one", new int[] {h.unit(1, 1, 0), h.unit(1, 1, 1)}, 90, NONE);
        h.renew();
        due("it stays", h.unit(1, 1, 0), 90);
    }

    private static void promise13Process() {
        House h = plainHouse();
        int[][] none = {{2, 0, 0}, {-1, 0, 0}, {0, 4, 0}, {0, -1, 0}, {0, 0, -1}, {0, 0, 3}, {0, Integer.MAX_VALUE, 0}};
        for (int[] c : none) {
            due("process(" + c[0] + ", " + c[1] + ", " + c[2] + ")", h.process(c[0], c[1], c[2]), NONE);
        }
        give(h, 0, 0, 3, 0);
        h.tick(20, 0, 1);
        dueAll("process 1", new int[] {h.process(0, 1, 0), h.process(0, 1, 1), h.process(0, 1, 2)}, 1, 20, 0);
        due("the others are empty", h.process(0, 0, 0) + h.process(0, 2, 0) + h.process(0, 3, 0) + h.process(1, 1, 0), 0);
        idle(h, 3);
        h.tick(0, 0, 4);
        dueAll("came, but not told so", new int[] {h.process(0, 1, 0), h.process(0, 1, 1), h.process(0, 1, 2)}, 2, 20, 1);
        idle(h, 3);
        h.tick(0, 0, 1);
        dueAll("came ahead: it is empty", new int[] {h.process(0, 1, 0), h.process(0, 1, 1), h.process(0, 1, 2)}, 0, 0, 0);
        due("so not DROPPED", h.world(5), 0);
    }

    private static void promise14World() {
        House h = plainHouse();
        int[] none = {-1, 7, Integer.MIN_VALUE, Integer.MAX_VALUE};
        for (int what : none) {
            due("world(" + what + ")", h.world(what), NONE);
        }
        give(h, 0, 0, 3, 0);
        give(h, 1, 0, 3, 0);
        h.tick(20, 20, 1 + 2);
        idle(h, 3);
        h.tick(0, 0, 1 + 2 + 8);
        idle(h, 3);
        h.tick(0, 0, 1);
        dueAll("world", worldAsked(h), 9, 0, 5, 5, 1, 1, 0);
        h.renew();
        h.tick(40, 40, 0);
        dueAll("world then", worldAsked(h), 10, 1, 7, 5, 1, 1, 3);
    }
}
