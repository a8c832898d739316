import java.util.Arrays;

/** Two peers that send units of bytes to each other over bearers, through a radio link. */
public final class BearerHouse {
    public static final int NONE = -1;

    private static final int TAPE_BYTES = 120;
    private static final int FIELD_BYTES = 240;
    private static final int BLOCK_BYTES = 250;
    private static final int PROCESSES = 4;
    private static final int LAST_SENDING = 3;
    private static final int FILLER = 255;

    /** Numbers and COUNTS stand on the air by their lowest six bits. */
    private static final int ON_AIR = 63;

    private static final int SENDER_PIECES = 16;
    private static final int RECEIVER_PIECES = 32;
    private static final int KEPT_AT_MOST = 24;

    /** Rows for units: a power of two above all COUNTS that can be alive at once. */
    private static final int UNIT_ROWS = 32;

    private static final int POLL_TICKS = 10;
    private static final int REORDER_TICKS = 6;
    private static final int PROHIBIT_TICKS = 5;
    private static final int DATA_WITHOUT_POLL = 3;
    private static final int TRIES_TO_FAIL = 5;
    private static final int STATUS_ENTRIES = 15;

    /** The bits of the first byte of DATA. */
    private static final int IS_DATA = 128;
    private static final int IS_PART = 64;
    private static final int HAS_POLL = 32;
    private static final int GOES_ON = 16;
    private static final int IS_CUT = 8;
    private static final int HAS_LENGTHS = 4;

    /** Set in the second byte of a PART, in a LENGTH and in an entry; each tells there's more to know. */
    private static final int HIGH_BIT = 128;

    /** A cell of a piece: a byte, these bits, and above them whose byte it is. */
    private static final int FIRST = 256;
    private static final int LAST = 512;
    private static final int MARK = 1024;
    private static final int OWNER_SHIFT = 11;

    private static final int[] SBOX = {
        99, 124, 119, 123, 242, 107, 111, 197, 48, 1, 103, 43, 254, 215, 171, 118,
        202, 130, 201, 125, 250, 89, 71, 240, 173, 212, 162, 175, 156, 164, 114, 192,
        183, 253, 147, 38, 54, 63, 247, 204, 52, 165, 229, 241, 113, 216, 49, 21,
        4, 199, 35, 195, 24, 150, 5, 154, 7, 18, 128, 226, 235, 39, 178, 117,
        9, 131, 44, 26, 27, 110, 90, 160, 82, 59, 214, 179, 41, 227, 47, 132,
        83, 209, 0, 237, 32, 252, 177, 91, 106, 203, 190, 57, 74, 76, 88, 207,
        208, 239, 170, 251, 67, 77, 51, 133, 69, 249, 2, 127, 80, 60, 159, 168,
        81, 163, 64, 143, 146, 157, 56, 245, 188, 182, 218, 33, 16, 255, 243, 210,
        205, 12, 19, 236, 95, 151, 68, 23, 196, 167, 126, 61, 100, 93, 25, 115,
        96, 129, 79, 220, 34, 42, 144, 136, 70, 238, 184, 20, 222, 94, 11, 219,
        224, 50, 58, 10, 73, 6, 36, 92, 194, 211, 172, 98, 145, 149, 228, 121,
        231, 200, 55, 109, 141, 213, 78, 169, 108, 86, 244, 234, 101, 122, 174, 8,
        186, 120, 37, 46, 28, 166, 180, 198, 232, 221, 116, 31, 75, 189, 139, 138,
        112, 62, 181, 102, 72, 3, 246, 14, 97, 53, 87, 185, 134, 193, 29, 158,
        225, 248, 152, 17, 105, 217, 142, 148, 155, 30, 135, 233, 206, 85, 40, 223,
        140, 161, 137, 13, 191, 230, 66, 104, 65, 153, 45, 15, 176, 84, 187, 22
    };

    private final int bearers;
    private final int seed;
    private final int[] tape = new int[TAPE_BYTES];
    private int tapeSize;
    private final Cipher cipher;
    private final Sender[] senders;
    private final Receiver[] receivers;
    private final Carrier[] carriers;
    /** Sizes of the blocks sent in the latest tick, whose bytes are still in that tick's carriers. */
    private final int[] shown = new int[2];
    private int ticks;
    private int epoch;
    private int sendings;
    private int lost;
    private int turned;
    private int dropped;
    private int worked;

    public BearerHouse(int bearers, int seed) {
        this.bearers = bearers < 1 || bearers > 3 ? 2 : bearers;
        this.seed = seed;
        cipher = new Cipher();
        cipher.setKey(seed, 0);
        int places = 2 * this.bearers;
        senders = new Sender[places];
        receivers = new Receiver[places];
        for (int i = 0; i < places; i++) {
            int peer = i < this.bearers ? 0 : 1;
            int bearer = i - peer * this.bearers;
            senders[i] = new Sender(8 * bearer + 4 * peer);
            receivers[i] = new Receiver(8 * bearer + 4 * (1 - peer));
        }
        carriers = new Carrier[2 * PROCESSES];
        for (int i = 0; i < carriers.length; i++) {
            carriers[i] = new Carrier();
        }
    }

    public int feed(int a, int b, int c, int d, int e) {
        if (tapeSize + 20 > TAPE_BYTES) {
            return NONE;
        }
        feedWord(a);
        feedWord(b);
        feedWord(c);
        feedWord(d);
        feedWord(e);
        return tapeSize;
    }

    private void feedWord(int word) {
        for (int shift = 24; shift >= 0 && tapeSize < TAPE_BYTES; shift -= 8) {
            tape[tapeSize++] = word >> shift & 255;
        }
    }

    public int end(int n) {
        if (n < 0 || n > tapeSize) {
            return NONE;
        }
        tapeSize = n;
        return n;
    }

    public int send(int peer, int bearer) {
        if (!isPlace(peer, bearer) || tapeSize == 0) {
            return NONE;
        }
        int count = senders[placeOf(peer, bearer)].outbox.takeUnit(tape, tapeSize);
        if (count != NONE) {
            tapeSize = 0;
        }
        return count;
    }

    public boolean rate(int bearer, int r) {
        if (!isPlace(0, bearer) || r < 0 || r > 200) {
            return false;
        }
        senders[placeOf(0, bearer)].rate = r;
        senders[placeOf(1, bearer)].rate = r;
        return true;
    }

    public int tick(int g0, int g1, int faults) {
        if (g0 < 0 || g0 > BLOCK_BYTES || g1 < 0 || g1 > BLOCK_BYTES) {
            return NONE;
        }
        ticks++;
        for (int i = 0; i < senders.length; i++) {
            senders[i].countDown();
            receivers[i].countDown();
        }
        for (int i = 0; i < senders.length; i++) {
            senders[i].prepare();
        }
        int answer = 0;
        for (int peer = 0; peer < 2; peer++) {
            Carrier carrier = carriers[peer * PROCESSES + (ticks & 3)];
            if (carrier.sendings == 0) {
                fillBlock(peer, carrier, peer == 0 ? g0 : g1);
            }
            shown[peer] = carrier.size;
            if (carrier.size > 0) {
                answer |= 1 << peer;
                boolean isLost = (faults >> peer & 1) != 0;
                if (countSending(carrier, isLost)) {
                    answer |= 4 << peer;
                    workOn(1 - peer, carrier.air);
                }
                takeAnswer(carrier, (faults >> peer + 2 & 1) != 0);
            }
        }
        return answer;
    }

    public int renew() {
        for (int i = 0; i < receivers.length; i++) {
            handAllWhole(i);
            receivers[i].startAnew();
        }
        for (int i = 0; i < senders.length; i++) {
            senders[i].startAnew();
        }
        for (int i = 0; i < carriers.length; i++) {
            carriers[i].makeEmpty();
        }
        epoch++;
        cipher.setKey(seed, epoch);
        for (int i = 0; i < senders.length; i++) {
            senders[i].outbox.waitAnew(receivers[i].inbox);
        }
        return epoch;
    }

    public int block(int peer, int i) {
        if (peer < 0 || peer > 1 || shown[peer] == 0) {
            return NONE;
        }
        if (i == -1) {
            return shown[peer];
        }
        if (i < 0 || i >= shown[peer]) {
            return NONE;
        }
        return carriers[peer * PROCESSES + (ticks & 3)].air.at(i);
    }

    public int sender(int peer, int bearer, int what) {
        if (!isPlace(peer, bearer)) {
            return NONE;
        }
        Sender s = senders[placeOf(peer, bearer)];
        switch (what) {
            case 0: return s.low;
            case 1: return s.next;
            case 2: return s.outbox.kept;
            case 3: return s.outbox.waitingBytes();
            case 4: return s.again;
            case 5: return s.pollTimer;
            case 6: return s.failed ? 1 : 0;
            case 7: return s.bucket;
            case 8: return s.dataMade;
            case 9: return s.dataAgain;
            case 10: return s.statusCame;
            case 11: return s.outbox.nextCount;
            default: return NONE;
        }
    }

    public int receiver(int peer, int bearer, int what) {
        if (!isPlace(peer, bearer)) {
            return NONE;
        }
        Receiver r = receivers[placeOf(peer, bearer)];
        switch (what) {
            case 0: return r.low;
            case 1: return r.high;
            case 2: return r.told;
            case 3: return r.awaited;
            case 4: return r.reorderTimer;
            case 5: return r.prohibitTimer;
            case 6: return r.wanted ? 1 : 0;
            case 7: return r.heldBytes();
            case 8: return r.statusMade;
            case 9: return r.dataCame;
            case 10: return r.dataInVain;
            case 11: return r.polls;
            default: return NONE;
        }
    }

    public int delivered(int peer, int bearer, int what) {
        if (!isPlace(peer, bearer)) {
            return NONE;
        }
        Inbox inbox = receivers[placeOf(peer, bearer)].inbox;
        switch (what) {
            case 0: return inbox.next;
            case 1: return inbox.bytes;
            case 2: return inbox.doubles;
            case 3: return inbox.stored;
            case 4: return inbox.sum;
            case 5: return inbox.latestSize;
            default: return NONE;
        }
    }

    public int unit(int peer, int bearer, int i) {
        if (!isPlace(peer, bearer)) {
            return NONE;
        }
        Inbox inbox = receivers[placeOf(peer, bearer)].inbox;
        return i >= 0 && i < inbox.latestSize && i < inbox.latest.length ? inbox.latest[i] : NONE;
    }

    public int process(int peer, int k, int what) {
        if (peer < 0 || peer > 1 || k < 0 || k >= PROCESSES) {
            return NONE;
        }
        Carrier carrier = carriers[peer * PROCESSES + k];
        switch (what) {
            case 0: return carrier.sendings;
            case 1: return carrier.size;
            case 2: return carrier.hasCome ? 1 : 0;
            default: return NONE;
        }
    }

    public int world(int what) {
        switch (what) {
            case 0: return ticks;
            case 1: return epoch;
            case 2: return sendings;
            case 3: return lost;
            case 4: return turned;
            case 5: return dropped;
            case 6: return worked;
            default: return NONE;
        }
    }

    private boolean isPlace(int peer, int bearer) {
        return peer >= 0 && peer <= 1 && bearer >= 0 && bearer < bearers;
    }

    private int placeOf(int peer, int bearer) {
        return peer * bearers + bearer;
    }

    private void fillBlock(int peer, Carrier carrier, int g) {
        Air air = carrier.air;
        air.size = 0;
        for (int i = 0; i < 2 * bearers; i++) {
            boolean isBounded = i < bearers;
            int bearer = isBounded ? i : i - bearers;
            Sender s = senders[placeOf(peer, bearer)];
            boolean makesMore = true;
            for (int k = 0; k < BLOCK_BYTES && makesMore; k++) {
                int left = g - air.size;
                int room = (isBounded ? Math.min(left, s.bucket) : left) - 2;
                makesMore = room >= 1 && makePart(peer, bearer, room, air);
            }
        }
        if (air.size > 0) {
            fillUp(air, g);
            carrier.size = g;
        }
    }

    private static void fillUp(Air air, int g) {
        if (air.size < g) {
            air.put(FILLER);
        }
        for (int i = air.size; i < g; i++) {
            air.put(0);
        }
    }

    private boolean makePart(int peer, int bearer, int room, Air air) {
        Sender s = senders[placeOf(peer, bearer)];
        Receiver r = receivers[placeOf(peer, bearer)];
        int start = air.size;
        air.put(bearer);
        air.put(0);
        if (r.wanted && r.prohibitTimer == 0 && room >= 2) {
            r.makeStatus(air, room);
        } else if (!s.failed && s.again > 0) {
            s.makeAgain(air, room);
        } else if (!s.failed) {
            s.makeNew(air, room, cipher);
        }
        int made = air.size - start - 2;
        if (made == 0) {
            air.size = start;
            return false;
        }
        air.set(start + 1, made);
        s.bucket -= made + 2;
        return true;
    }

    /** Whether the block comes now for the first time. */
    private boolean countSending(Carrier carrier, boolean isLost) {
        sendings++;
        carrier.sendings++;
        if (isLost) {
            lost++;
            return false;
        }
        boolean isFirst = !carrier.hasCome;
        carrier.hasCome = true;
        return isFirst;
    }

    private void takeAnswer(Carrier carrier, boolean isTurned) {
        if (isTurned) {
            turned++;
        }
        if (carrier.hasCome != isTurned) {
            carrier.makeEmpty();
        } else if (carrier.sendings >= LAST_SENDING) {
            dropped++;
            carrier.makeEmpty();
        }
    }

    private void workOn(int peer, Air air) {
        int at = 0;
        for (int i = 0; i < BLOCK_BYTES && at + 2 < air.size && air.at(at) < bearers; i++) {
            int place = placeOf(peer, air.at(at));
            int size = air.at(at + 1);
            worked++;
            if (air.at(at + 2) >= IS_DATA) {
                takeData(place, air, at + 2, at + 2 + size);
            } else {
                senders[place].takeStatus(air, at + 2);
            }
            at += 2 + size;
        }
    }

    private void takeData(int place, Air air, int from, int to) {
        Receiver r = receivers[place];
        int number = r.takeBytes(air, from, to);
        if (number == NONE) {
            return;
        }
        r.raiseTold();
        for (int i = 0; i < RECEIVER_PIECES && r.isWhole(r.low); i++) {
            hand(place, r.pieceAt(r.low));
            r.passLow();
        }
        r.settle(number, (air.at(from) & HAS_POLL) != 0);
    }

    private void handAllWhole(int place) {
        Receiver r = receivers[place];
        for (int k = r.low; k < r.high; k++) {
            if (r.isWhole(k)) {
                hand(place, r.pieceAt(k));
            } else {
                r.inbox.isBegun = false;
            }
        }
        r.inbox.isBegun = false;
    }

    private void hand(int place, Piece piece) {
        Inbox inbox = receivers[place].inbox;
        for (int i = 0; i < piece.size; i++) {
            if (inbox.completes(piece.cell(i))) {
                takePacket(place, inbox);
            }
        }
    }

    private void takePacket(int place, Inbox inbox) {
        if (inbox.packet[0] < 128) {
            senders[place].outbox.confirmReported(inbox.packet, inbox.packetSize);
            return;
        }
        int count = inbox.meantCount();
        if (inbox.isDouble(count)) {
            inbox.doubles++;
            return;
        }
        cipher.mask(inbox.packet, inbox.packetSize, count, inbox.mark);
        inbox.store(count);
        inbox.deliverStored();
    }

    /** AES-128 in counter mode, with the key of the epoch of now. */
    private static final class Cipher {
        private final int[] keys = new int[176];
        private final int[] state = new int[16];
        private final int[] shifted = new int[16];

        void setKey(int seed, int epoch) {
            for (int i = 0; i < 16; i++) {
                keys[i] = (seed >> 8 * (i & 3)) + 17 * i + 29 * epoch & 255;
            }
            int power = 1;
            for (int i = 16; i < keys.length; i += 4) {
                boolean isTurned = (i & 15) == 0;
                for (int k = 0; k < 4; k++) {
                    int word = isTurned ? SBOX[keys[i - 4 + (k + 1 & 3)] & 255] : keys[i - 4 + k];
                    keys[i + k] = keys[i + k - 16] ^ word;
                }
                if (isTurned) {
                    keys[i] ^= power;
                    power = (power << 1 ^ (power >> 7) * 27) & 255;
                }
            }
        }

        /** Enciphers or deciphers a packet's bytes behind its first one, which stays open. */
        void mask(int[] packet, int size, int count, int mark) {
            for (int at = 1; at < size; at += 16) {
                setCounter(count, mark, at >> 4);
                encrypt();
                for (int i = 0; i < 16 && at + i < size && at + i < packet.length; i++) {
                    packet[at + i] ^= state[i];
                }
            }
        }

        private void setCounter(int count, int mark, int j) {
            Arrays.fill(state, 0);
            for (int i = 0; i < 4; i++) {
                state[i] = count >> 24 - 8 * i & 255;
                state[12 + i] = j >> 24 - 8 * i & 255;
            }
            state[4] = mark & 255;
        }

        private void encrypt() {
            for (int i = 0; i < 16; i++) {
                state[i] ^= keys[i];
            }
            for (int round = 1; round <= 10; round++) {
                for (int i = 0; i < 16; i++) {
                    shifted[i] = SBOX[state[i + 4 * (i & 3) & 15] & 255];
                }
                for (int i = 0; i < 16; i++) {
                    int column = i & 12;
                    int all = shifted[column] ^ shifted[column + 1] ^ shifted[column + 2] ^ shifted[column + 3];
                    int pair = shifted[i] ^ shifted[column + (i + 1 & 3)];
                    int mix = round < 10 ? all ^ (pair << 1 ^ (pair >> 7) * 27) & 255 : 0;
                    state[i] = shifted[i] ^ mix ^ keys[16 * round + i];
                }
            }
        }
    }

    /** Bytes on the air. */
    private static final class Air {
        private final int[] bytes = new int[BLOCK_BYTES];
        private int size;

        void put(int value) {
            if (size < bytes.length) {
                bytes[size++] = value;
            }
        }

        void set(int i, int value) {
            if (i >= 0 && i < size) {
                bytes[i] = value;
            }
        }

        int at(int i) {
            return i >= 0 && i < size ? bytes[i] : 0;
        }
    }

    /** One of a peer's PROCESSES; its bytes stay readable after it has become empty. */
    private static final class Carrier {
        private final Air air = new Air();
        private int size;
        private int sendings;
        private boolean hasCome;

        void makeEmpty() {
            size = 0;
            sendings = 0;
            hasCome = false;
        }
    }

    /** A piece's field; a MARK means at a sender that the byte is in AGAIN, at a receiver that it has come. */
    private static final class Piece {
        private final int[] cells = new int[FIELD_BYTES];
        /** NONE as long as a receiver doesn't know the end. */
        private int size;
        private int marks;
        private int tries;
        private boolean isConfirmed;
        private boolean isNamed;

        void clear(int newSize) {
            Arrays.fill(cells, 0);
            size = newSize;
            marks = 0;
            tries = 0;
            isConfirmed = false;
            isNamed = false;
        }

        int cell(int i) {
            return i >= 0 && i < cells.length ? cells[i] : 0;
        }

        boolean has(int i, int bit) {
            return i >= 0 && i < cells.length && (cells[i] & bit) != 0;
        }

        void append(int cell) {
            if (size >= 0 && size < cells.length) {
                cells[size++] = cell;
            }
        }

        void markCell(int i) {
            if (i >= 0 && i < cells.length && (cells[i] & MARK) == 0) {
                cells[i] |= MARK;
                marks++;
            }
        }

        void unmarkCell(int i) {
            if (i >= 0 && i < cells.length && (cells[i] & MARK) != 0) {
                cells[i] &= ~MARK;
                marks--;
            }
        }

        void putArrived(int i, int cell) {
            if (i >= 0 && i < cells.length && (cells[i] & MARK) == 0) {
                cells[i] = cell | MARK;
                marks++;
            }
        }

        /** The first place from i on where the MARK is as asked, or upTo. */
        int nextMark(int i, int upTo, boolean isMarked) {
            for (int k = Math.max(i, 0); k < upTo && k < cells.length; k++) {
                if ((cells[k] & MARK) != 0 == isMarked) {
                    return k;
                }
            }
            return upTo;
        }

        /** Packets' ends with another byte behind: as many LENGTHS are due. */
        int innerEnds(int from, int to) {
            int ends = 0;
            for (int i = from; i < to - 1; i++) {
                if (has(i, LAST)) {
                    ends++;
                }
            }
            return ends;
        }

        /** How far bytes from there on fit, with their LENGTHS, into the room. */
        int fitting(int from, int upTo, int room) {
            int left = room;
            for (int i = from; i < upTo; i++) {
                left -= i > from && has(i - 1, LAST) ? 2 : 1;
                if (left < 0) {
                    return i;
                }
            }
            return upTo;
        }

        /** As far as bytes can be missing that have a place in the field. */
        int reach() {
            return size == NONE ? FIELD_BYTES : size;
        }

        int missingRuns() {
            int runs = 0;
            int from = nextMark(0, reach(), false);
            for (int i = 0; i < FIELD_BYTES && from < reach(); i++) {
                runs++;
                from = nextMark(nextMark(from, reach(), true), reach(), false);
            }
            return runs;
        }

        void writeMissing(Air air, int number) {
            int from = nextMark(0, reach(), false);
            for (int i = 0; i < FIELD_BYTES && from < reach(); i++) {
                int to = nextMark(from, reach(), true);
                air.put((number & ON_AIR) + HIGH_BIT);
                air.put(from);
                air.put(size == NONE && to == FIELD_BYTES ? 255 : to - 1);
                from = nextMark(to, reach(), false);
            }
        }

        void writeData(Air air, int number, int from, int to, boolean hasPoll) {
            boolean isPart = from > 0 || to < size;
            int ends = innerEnds(from, to);
            air.put(IS_DATA + (isPart ? IS_PART : 0) + (hasPoll ? HAS_POLL : 0)
                + (has(from, FIRST) ? 0 : GOES_ON) + (has(to - 1, LAST) ? 0 : IS_CUT)
                + (ends > 0 ? HAS_LENGTHS : 0));
            air.put((number & ON_AIR) + (isPart && to == size ? HIGH_BIT : 0));
            if (isPart) {
                air.put(from);
            }
            writeLengths(air, from, to, ends);
            for (int i = from; i < to; i++) {
                air.put(cell(i) & 255);
            }
        }

        private void writeLengths(Air air, int from, int to, int ends) {
            int left = ends;
            int begin = from;
            for (int i = from; i < to - 1; i++) {
                if (has(i, LAST)) {
                    left--;
                    air.put(i + 1 - begin + (left > 0 ? HIGH_BIT : 0));
                    begin = i + 1;
                }
            }
        }
    }

    /** What a SENDER has of units: the KEPT ones, and the packets that are WAITING. */
    private static final class Outbox {
        private static final int REPORT_ID = -1;

        private final int mark;
        private final int[] rows = new int[UNIT_ROWS * TAPE_BYTES];
        private final int[] sizes = new int[UNIT_ROWS];
        private final boolean[] isKept = new boolean[UNIT_ROWS];
        /** Bytes of a KEPT unit's packet that are not in pieces that are confirmed. */
        private final int[] open = new int[UNIT_ROWS];
        private int kept;
        private int lowCount;
        private int nextCount;
        /** WAITING: COUNTS of units, or REPORT_ID. */
        private final int[] ids = new int[UNIT_ROWS];
        private int waiting;
        /** The first one's packet, valid while some bytes of it are gone. */
        private final int[] front = new int[TAPE_BYTES + 1];
        private int frontSize;
        private int gone;
        private final int[] report = new int[8];
        private int reportSize;

        Outbox(int mark) {
            this.mark = mark;
        }

        int takeUnit(int[] unit, int size) {
            if (nextCount >= lowCount + KEPT_AT_MOST || size < 1 || size > TAPE_BYTES || size > unit.length) {
                return NONE;
            }
            int row = nextCount & UNIT_ROWS - 1;
            System.arraycopy(unit, 0, rows, row * TAPE_BYTES, size);
            sizes[row] = size;
            isKept[row] = true;
            open[row] = size + 1;
            kept++;
            addWaiting(nextCount);
            return nextCount++;
        }

        private void addWaiting(int id) {
            if (waiting < ids.length) {
                ids[waiting++] = id;
            }
        }

        private void dropFront() {
            for (int i = 1; i < waiting && i < ids.length; i++) {
                ids[i - 1] = ids[i];
            }
            waiting = Math.max(waiting - 1, 0);
            gone = 0;
        }

        private int packetSize(int id) {
            return id == REPORT_ID ? reportSize : sizes[id & UNIT_ROWS - 1] + 1;
        }

        int waitingBytes() {
            int bytes = 0;
            for (int i = 0; i < waiting; i++) {
                // The first one's unit may be KEPT no more, and its row be another's.
                bytes += i == 0 && gone > 0 ? frontSize - gone : packetSize(ids[i]);
            }
            return bytes;
        }

        /** Enciphers a packet only when it goes out: many are made anew with the link before they go. */
        void openFront(Cipher cipher) {
            int id = ids[0];
            frontSize = packetSize(id);
            if (id == REPORT_ID) {
                System.arraycopy(report, 0, front, 0, reportSize);
                return;
            }
            front[0] = 128 + (id & ON_AIR);
            int row = id & UNIT_ROWS - 1;
            System.arraycopy(rows, row * TAPE_BYTES, front, 1, sizes[row]);
            cipher.mask(front, frontSize, id, mark);
        }

        /** The next byte of the front, which has been opened, as a cell of a piece. */
        int takeCell() {
            if (gone < 0 || gone >= front.length) {
                return 0;
            }
            int cell = front[gone] + (ids[0] + 1 << OWNER_SHIFT);
            cell += gone == 0 ? FIRST : 0;
            gone++;
            if (gone >= frontSize) {
                cell += LAST;
                dropFront();
            }
            return cell;
        }

        private boolean keeps(int count) {
            return count >= lowCount && count < nextCount && isKept[count & UNIT_ROWS - 1];
        }

        void confirmByte(int cell) {
            int count = (cell >> OWNER_SHIFT) - 1;
            if (keeps(count)) {
                int row = count & UNIT_ROWS - 1;
                open[row]--;
                if (open[row] == 0) {
                    confirmUnit(count);
                }
            }
        }

        private void confirmUnit(int count) {
            isKept[count & UNIT_ROWS - 1] = false;
            kept--;
            int staying = 0;
            for (int i = 0; i < waiting && i < ids.length; i++) {
                if (ids[i] != count || i == 0 && gone > 0) {
                    ids[staying++] = ids[i];
                }
            }
            waiting = staying;
            for (int i = 0; i < UNIT_ROWS && lowCount < nextCount && !isKept[lowCount & UNIT_ROWS - 1]; i++) {
                lowCount++;
            }
        }

        void confirmReported(int[] packet, int size) {
            if (size < 2 || size > packet.length) {
                return;
            }
            int next = (packet[0] & ON_AIR) << 8 | packet[1];
            int upTo = nextCount;
            for (int count = lowCount; count < upTo; count++) {
                int i = count - next - 1;
                int at = 2 + (i >> 3);
                boolean isStored = i >= 0 && at < size && (packet[at] >> 7 - (i & 7) & 1) != 0;
                if (keeps(count) && (count < next || isStored)) {
                    confirmUnit(count);
                }
            }
        }

        void waitAnew(Inbox inbox) {
            reportSize = inbox.writeReport(report);
            waiting = 0;
            gone = 0;
            addWaiting(REPORT_ID);
            for (int count = lowCount; count < nextCount; count++) {
                if (keeps(count)) {
                    int row = count & UNIT_ROWS - 1;
                    open[row] = sizes[row] + 1;
                    addWaiting(count);
                }
            }
        }
    }

    private static final class Sender {
        private final Outbox outbox;
        private final Piece[] pieces = new Piece[SENDER_PIECES];
        private int rate = 16;
        private int bucket;
        /** A and S. */
        private int low;
        private int next;
        /** Bytes in AGAIN. */
        private int again;
        private boolean isAsked;
        private boolean failed;
        private int polled = NONE;
        private int pollTimer;
        private int sincePoll;
        private int dataMade;
        private int dataAgain;
        private int statusCame;

        Sender(int mark) {
            outbox = new Outbox(mark);
            for (int i = 0; i < pieces.length; i++) {
                pieces[i] = new Piece();
            }
        }

        private Piece pieceAt(int number) {
            return pieces[number & SENDER_PIECES - 1];
        }

        void startAnew() {
            low = 0;
            next = 0;
            again = 0;
            isAsked = false;
            failed = false;
            polled = NONE;
            pollTimer = 0;
            sincePoll = 0;
        }

        void countDown() {
            if (pollTimer == 0) {
                return;
            }
            pollTimer--;
            if (pollTimer > 0) {
                return;
            }
            isAsked = true;
            boolean isStuck = outbox.waiting == 0 || next - low == SENDER_PIECES;
            if (again == 0 && low < next && isStuck) {
                bringAgain(pieceAt(low), 0, FIELD_BYTES);
            }
        }

        void prepare() {
            if (!failed && pollTimer == 0 && low < next && outbox.waiting == 0 && again == 0) {
                pollTimer = POLL_TICKS;
            }
            if (bucket < 5 * rate) {
                bucket = Math.min(bucket + rate, 5 * rate);
            }
        }

        private void bringAgain(Piece piece, int from, int to) {
            if (piece.marks == 0) {
                piece.tries++;
                failed = failed || piece.tries >= TRIES_TO_FAIL;
            }
            int marksBefore = piece.marks;
            for (int i = from; i < to && i < piece.size; i++) {
                piece.markCell(i);
            }
            again += piece.marks - marksBefore;
        }

        void makeAgain(Air air, int room) {
            int number = low;
            for (int i = 0; i < SENDER_PIECES && pieceAt(number).marks == 0; i++) {
                number++;
            }
            Piece piece = pieceAt(number);
            int from = piece.nextMark(0, piece.size, true);
            int to = piece.nextMark(from, piece.size, false);
            boolean isWholeField = from == 0 && to == piece.size;
            if (!isWholeField || 2 + piece.innerEnds(0, to) + to > room) {
                if (room < 4) {
                    return;
                }
                to = piece.fitting(from, to, room - 3);
            }
            for (int i = from; i < to; i++) {
                piece.unmarkCell(i);
            }
            again -= to - from;
            dataAgain++;
            piece.writeData(air, number, from, to, countData());
        }

        void makeNew(Air air, int room, Cipher cipher) {
            if (outbox.waiting == 0 || next - low >= SENDER_PIECES || room < 3) {
                return;
            }
            Piece piece = pieceAt(next);
            piece.clear(0);
            int left = room - 2;
            for (int i = 0; i < FIELD_BYTES && outbox.waiting > 0; i++) {
                left -= piece.has(i - 1, LAST) ? 2 : 1;
                if (left < 0) {
                    break;
                }
                if (outbox.gone == 0) {
                    outbox.openFront(cipher);
                }
                piece.append(outbox.takeCell());
            }
            next++;
            piece.writeData(air, next - 1, 0, piece.size, countData());
        }

        /** Whether POLL stands in the DATA whose bytes have just been taken. */
        private boolean countData() {
            dataMade++;
            boolean isAllOut = outbox.waiting == 0 && again == 0;
            boolean isFull = next - low == SENDER_PIECES;
            if (!isAsked && sincePoll < DATA_WITHOUT_POLL && !isAllOut && !isFull) {
                sincePoll++;
                return false;
            }
            isAsked = false;
            sincePoll = 0;
            polled = next - 1;
            pollTimer = POLL_TICKS;
            return true;
        }

        private int meant(int onAir) {
            return low + (onAir - low & ON_AIR);
        }

        void takeStatus(Air air, int from) {
            statusCame++;
            int ack = meant(air.at(from + 1));
            if (ack > next) {
                return;
            }
            nameEntries(air, from);
            for (int k = low; k < ack; k++) {
                Piece piece = pieceAt(k);
                if (!piece.isNamed && !piece.isConfirmed) {
                    confirm(piece);
                }
            }
            takeEntries(air, from);
            for (int i = 0; i < SENDER_PIECES && low < next && pieceAt(low).isConfirmed; i++) {
                low++;
            }
            if (polled < ack) {
                pollTimer = 0;
            }
        }

        private void nameEntries(Air air, int from) {
            for (int k = low; k < next; k++) {
                pieceAt(k).isNamed = false;
            }
            int at = from + 2;
            for (int i = 0; i < air.at(from); i++) {
                int number = meant(air.at(at));
                if (number < next) {
                    pieceAt(number).isNamed = true;
                }
                at += air.at(at) < HIGH_BIT ? 1 : 3;
            }
        }

        private void takeEntries(Air air, int from) {
            int at = from + 2;
            for (int i = 0; i < air.at(from); i++) {
                int number = meant(air.at(at));
                boolean isAll = air.at(at) < HIGH_BIT;
                if (number < next && !pieceAt(number).isConfirmed) {
                    int first = isAll ? 0 : air.at(at + 1);
                    int last = isAll ? FIELD_BYTES : air.at(at + 2);
                    bringAgain(pieceAt(number), first, last + 1);
                }
                at += isAll ? 1 : 3;
            }
        }

        private void confirm(Piece piece) {
            piece.isConfirmed = true;
            again -= piece.marks;
            piece.marks = 0;
            for (int i = 0; i < piece.size; i++) {
                outbox.confirmByte(piece.cell(i));
            }
        }
    }

    private static final class Receiver {
        private final Inbox inbox;
        private final Piece[] pieces = new Piece[RECEIVER_PIECES];
        /** R, H, MS and X. */
        private int low;
        private int high;
        private int told;
        private int awaited;
        private int polls = NONE;
        private boolean wanted;
        private int reorderTimer;
        private int prohibitTimer;
        private int statusMade;
        private int dataCame;
        private int dataInVain;

        Receiver(int mark) {
            inbox = new Inbox(mark);
            for (int i = 0; i < pieces.length; i++) {
                pieces[i] = new Piece();
                pieces[i].size = NONE;
            }
        }

        Piece pieceAt(int number) {
            return pieces[number & RECEIVER_PIECES - 1];
        }

        void startAnew() {
            for (int k = low; k < high; k++) {
                pieceAt(k).clear(NONE);
            }
            low = 0;
            high = 0;
            told = 0;
            awaited = 0;
            polls = NONE;
            wanted = false;
            reorderTimer = 0;
            prohibitTimer = 0;
        }

        boolean isWhole(int number) {
            Piece piece = pieceAt(number);
            return number >= low && number < high && piece.size != NONE && piece.marks == piece.size;
        }

        int heldBytes() {
            int bytes = 0;
            for (int k = low; k < high; k++) {
                bytes += pieceAt(k).marks;
            }
            return bytes;
        }

        void countDown() {
            if (prohibitTimer > 0) {
                prohibitTimer--;
            }
            if (reorderTimer > 0) {
                reorderTimer--;
                if (reorderTimer == 0) {
                    giveUpAwaiting();
                }
            }
        }

        private void giveUpAwaiting() {
            told = Math.max(told, awaited);
            raiseTold();
            wanted = true;
            answerPolls();
            if (high > told) {
                reorderTimer = REORDER_TICKS;
                awaited = high;
            }
        }

        /** The number of the piece that the DATA are of, or NONE if it is an old one. */
        int takeBytes(Air air, int from, int to) {
            dataCame++;
            int head = air.at(from);
            int number = low + (air.at(from + 1) - low & ON_AIR);
            if (number >= low + RECEIVER_PIECES) {
                dataInVain++;
                wanted = wanted || (head & HAS_POLL) != 0;
                return NONE;
            }
            Piece piece = pieceAt(number);
            boolean isPart = (head & IS_PART) != 0;
            int offset = isPart ? air.at(from + 2) : 0;
            int lengthsAt = from + (isPart ? 3 : 2);
            int marksBefore = piece.marks;
            int behind = takeCells(piece, offset, air, lengthsAt, to, head);
            if (!isPart || (air.at(from + 1) & HIGH_BIT) != 0) {
                piece.size = Math.min(behind, FIELD_BYTES);
            }
            if (piece.marks == marksBefore) {
                dataInVain++;
            }
            high = Math.max(high, number + 1);
            return number;
        }

        /** Where in the field the bytes end. */
        private int takeCells(Piece piece, int offset, Air air, int lengthsAt, int to, int head) {
            int lengths = (head & HAS_LENGTHS) != 0 ? countLengths(air, lengthsAt) : 0;
            int bytesAt = lengthsAt + lengths;
            int lengthAt = lengthsAt;
            int begin = bytesAt;
            boolean isFirst = (head & GOES_ON) == 0;
            for (int at = bytesAt; at < to; at++) {
                boolean isLast = at == to - 1 && (head & IS_CUT) == 0;
                if (lengthAt < bytesAt && at + 1 - begin == (air.at(lengthAt) & 127)) {
                    isLast = true;
                    lengthAt++;
                    begin = at + 1;
                }
                piece.putArrived(offset + at - bytesAt, air.at(at) + (isFirst ? FIRST : 0) + (isLast ? LAST : 0));
                isFirst = isLast;
            }
            return offset + to - bytesAt;
        }

        private static int countLengths(Air air, int lengthsAt) {
            int lengths = 1;
            for (int i = lengthsAt; i < air.size && (air.at(i) & HIGH_BIT) != 0; i++) {
                lengths++;
            }
            return lengths;
        }

        void raiseTold() {
            for (int i = 0; i < RECEIVER_PIECES && isWhole(told); i++) {
                told++;
            }
        }

        void passLow() {
            pieceAt(low).clear(NONE);
            low++;
            told = Math.max(told, low);
        }

        void settle(int number, boolean hasPoll) {
            // The polls of before are answered first: a new one takes their place.
            answerPolls();
            if (reorderTimer > 0 && awaited <= low) {
                reorderTimer = 0;
            }
            if (reorderTimer == 0 && high > low) {
                reorderTimer = REORDER_TICKS;
                awaited = high;
            }
            if (hasPoll) {
                polls = number;
                answerPolls();
            }
        }

        private void answerPolls() {
            if (polls != NONE && polls < told) {
                wanted = true;
                polls = NONE;
            }
        }

        void makeStatus(Air air, int room) {
            int start = air.size;
            air.put(0);
            air.put(0);
            int entries = 0;
            int ack = told;
            for (int k = low; k < told; k++) {
                Piece piece = pieceAt(k);
                if (isWhole(k)) {
                    continue;
                }
                int more = piece.marks == 0 ? 1 : piece.missingRuns();
                int cost = piece.marks == 0 ? 1 : 3 * more;
                if (entries + more > STATUS_ENTRIES || air.size - start + cost > room) {
                    ack = k;
                    break;
                }
                if (piece.marks == 0) {
                    air.put(k & ON_AIR);
                } else {
                    piece.writeMissing(air, k);
                }
                entries += more;
            }
            air.set(start, entries);
            air.set(start + 1, ack & ON_AIR);
            wanted = false;
            prohibitTimer = PROHIBIT_TICKS;
            statusMade++;
        }
    }

    /** What comes of the pieces that are HANDED: packets, and the units out of them. */
    private static final class Inbox {
        private final int mark;
        private final int[] packet = new int[TAPE_BYTES + 1];
        private int packetSize;
        private boolean isBegun;
        private final int[] rows = new int[UNIT_ROWS * TAPE_BYTES];
        /** 0 for a unit that is not STORED. */
        private final int[] sizes = new int[UNIT_ROWS];
        private int stored;
        private int next;
        private int bytes;
        private int doubles;
        private int sum;
        private final int[] latest = new int[TAPE_BYTES];
        private int latestSize;

        Inbox(int mark) {
            this.mark = mark;
        }

        /** Whether with this byte a packet is there. */
        boolean completes(int cell) {
            if ((cell & FIRST) != 0) {
                isBegun = true;
                packetSize = 0;
            }
            if (!isBegun || packetSize >= packet.length) {
                return false;
            }
            packet[packetSize++] = cell & 255;
            isBegun = (cell & LAST) == 0;
            return !isBegun;
        }

        int meantCount() {
            int from = next - UNIT_ROWS;
            return from + (packet[0] - from & ON_AIR);
        }

        boolean isDouble(int count) {
            return count < next || sizes[count & UNIT_ROWS - 1] > 0;
        }

        void store(int count) {
            int size = packetSize - 1;
            if (size < 1 || size > TAPE_BYTES) {
                return;
            }
            int row = count & UNIT_ROWS - 1;
            System.arraycopy(packet, 1, rows, row * TAPE_BYTES, size);
            sizes[row] = size;
            stored++;
        }

        void deliverStored() {
            for (int i = 0; i < UNIT_ROWS && sizes[next & UNIT_ROWS - 1] > 0; i++) {
                int row = next & UNIT_ROWS - 1;
                latestSize = Math.min(sizes[row], TAPE_BYTES);
                System.arraycopy(rows, row * TAPE_BYTES, latest, 0, latestSize);
                sizes[row] = 0;
                stored--;
                next++;
                bytes += latestSize;
                sum = 31 * sum + latestSize;
                for (int k = 0; k < latestSize; k++) {
                    sum = 31 * sum + latest[k];
                }
            }
        }

        /** The size of the REPORT that it writes. */
        int writeReport(int[] report) {
            int bits = 0;
            for (int i = 0; i < UNIT_ROWS - 1; i++) {
                if (sizes[next + 1 + i & UNIT_ROWS - 1] > 0) {
                    bits = i + 1;
                }
            }
            Arrays.fill(report, 0);
            int size = 2 + (bits + 7 >> 3);
            if (size > report.length) {
                return 0;
            }
            report[0] = next >> 8 & ON_AIR;
            report[1] = next & 255;
            for (int i = 0; i < bits; i++) {
                if (sizes[next + 1 + i & UNIT_ROWS - 1] > 0) {
                    report[2 + (i >> 3)] |= 128 >> (i & 7);
                }
            }
            return size;
        }
    }
}
