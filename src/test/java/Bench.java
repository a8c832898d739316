import java.io.IOException;
import java.io.UncheckedIOException;
import java.nio.ByteBuffer;
import java.nio.file.Files;
import java.nio.file.Path;
import java.security.GeneralSecurityException;
import java.util.Arrays;
import java.util.stream.IntStream;
import javax.crypto.Cipher;
import javax.crypto.spec.SecretKeySpec;

/** What the tests share: answers that are due, sentences of the document, and houses in a known state. */
abstract class Bench {
    static final int NONE = -1;
    static final int LEAST = Integer.MIN_VALUE;
    static final int MOST = Integer.MAX_VALUE;
    /** Faults of tick: what peer 0 (or 1) sends is lost, and it is told that it came. */
    static final int GONE_0 = 1 + 4;
    static final int GONE_1 = 2 + 8;
    /** What sender, receiver and delivered can be asked. */
    static final int A = 0;
    static final int S = 1;
    static final int KEPT = 2;
    static final int WAITING = 3;
    static final int AGAIN = 4;
    static final int POLL_TIMER = 5;
    static final int FAILED = 6;
    static final int BUCKET = 7;
    static final int DATA_MADE = 8;
    static final int NOT_NEW = 9;
    static final int STATUS_CAME = 10;
    static final int NEXT_COUNT = 11;
    static final int R = 0;
    static final int H = 1;
    static final int MS = 2;
    static final int X = 3;
    static final int REORDER = 4;
    static final int PROHIBIT = 5;
    static final int WANTED = 6;
    static final int HELD = 7;
    static final int STATUS_MADE = 8;
    static final int DATA_CAME = 9;
    static final int IN_VAIN = 10;
    static final int POLLS = 11;
    static final int NEXT = 0;
    static final int BYTES = 1;
    static final int DOUBLES = 2;
    static final int STORED = 3;
    static final int SUM = 4;
    static final int LATEST = 5;

    private static final int SEED = 1234;
    private static final Path DOCUMENT = Path.of("../shared/DOC.md");
    private static int checks;
    private static int wrong;
    private static int sentences;
    private static String now = "";

    interface Test {
        void run();
    }

    /** A test of one sentence, which must stand in that section of the document, word for word. */
    static void of(String section, String sentence, Test test) {
        sentences++;
        now = section + ", \"" + sentence + "\": ";
        int before = checks;
        due("the document has this sentence", section(section).contains(sentence) ? 1 : 0, 1);
        try {
            test.run();
        } catch (RuntimeException e) {
            due("it threw " + e, 1, 0);
        }
        due("the test asks for something", checks > before + 1 ? 1 : 0, 1);
        now = "";
    }

    static void finish() {
        System.out.println((sentences == 0 ? "" : sentences + " tests of sentences: ")
            + (checks - wrong) + " answers are as due, " + wrong + " are not");
        if (wrong != 0) {
            System.exit(1);
        }
    }

    private static String section(String name) {
        try {
            for (String section : Files.readString(DOCUMENT).split("\n## ")) {
                if (section.startsWith(name + "\n") || section.startsWith(name + ":")) {
                    return section.replaceAll("\\s+", " ");
                }
            }
            return "";
        } catch (IOException e) {
            throw new UncheckedIOException(e);
        }
    }

    static void due(String what, int got, int want) {
        checks++;
        if (got != want) {
            wrong++;
            System.out.println(now + what + ": answered " + got + ", due is " + want);
        }
    }

    static void due(String what, boolean got, boolean want) {
        due(what, got ? 1 : 0, want ? 1 : 0);
    }

    static void dueAll(String what, int[] got, int... want) {
        checks++;
        if (!Arrays.equals(got, want)) {
            wrong++;
            System.out.println(now + what + ": answered " + Arrays.toString(got) + ", due is " + Arrays.toString(want));
        }
    }

    /** A house of one bearer whose bucket never grows: its blocks are shared out by what is left of them alone. */
    static House plainHouse() {
        House h = new House(1, SEED);
        h.rate(0, 0);
        return h;
    }

    /** Feeds and sends a unit of size bytes start, start + 1, ..; the TAPE has to be empty. */
    static int give(House h, int peer, int bearer, int size, int start) {
        int fed = 0;
        while (fed < size) {
            int[] w = new int[5];
            for (int k = 0; k < 20; k++) {
                w[k / 4] |= (start + fed + k & 255) << 24 - 8 * (k % 4);
            }
            fed = h.feed(w[0], w[1], w[2], w[3], w[4]);
        }
        if (fed > size) {
            h.end(size);
        }
        return h.send(peer, bearer);
    }

    /** Units of these sizes, for peer 0 on bearer 0. */
    static void giveAll(House h, int... sizes) {
        for (int size : sizes) {
            give(h, 0, 0, size, 0);
        }
    }

    static int[] blockOf(House h, int peer) {
        return air(h, peer, 0, Math.max(0, h.block(peer, -1)));
    }

    /** Bytes of the block that the peer sent in the latest tick. */
    static int[] air(House h, int peer, int from, int to) {
        int[] bytes = new int[to - from];
        for (int i = 0; i < bytes.length; i++) {
            bytes[i] = h.block(peer, from + i);
        }
        return bytes;
    }

    static int[] part(int[] row, int from, int to) {
        return Arrays.copyOfRange(row, from, to);
    }

    static int[] senderAsked(House h, int peer, int bearer, int... whats) {
        return Arrays.stream(whats).map(what -> h.sender(peer, bearer, what)).toArray();
    }

    static int[] receiverAsked(House h, int peer, int bearer, int... whats) {
        return Arrays.stream(whats).map(what -> h.receiver(peer, bearer, what)).toArray();
    }

    static int[] deliveredAsked(House h, int peer, int bearer, int... whats) {
        return Arrays.stream(whats).map(what -> h.delivered(peer, bearer, what)).toArray();
    }

    static int[] worldAsked(House h) {
        return Arrays.stream(upTo(7)).map(h::world).toArray();
    }

    static int[] upTo(int bound) {
        return row(bound, 0);
    }

    static void idle(House h, int ticks) {
        for (int i = 0; i < ticks; i++) {
            h.tick(0, 0, 0);
        }
    }

    /** Units in one piece that was lost, in tick 1; with tick 11, the next one, all of it comes to AGAIN. */
    static House lostPiece(int... sizes) {
        House h = plainHouse();
        giveAll(h, sizes);
        h.tick(250, 0, GONE_0);
        due("one piece, that is gone", h.sender(0, 0, S) + h.receiver(1, 0, DATA_CAME), 1);
        idle(h, 9);
        return h;
    }

    static int[] row(int size, int start) {
        int[] row = new int[size];
        for (int i = 0; i < size; i++) {
            row[i] = start + i & 255;
        }
        return row;
    }

    /** A plain house's packet of the unit 0, 1, .. in its first EPOCH, from peer 0. */
    static int[] packet(int size, int count) {
        return packet(row(size, 0), SEED, 0, count, 0, 0);
    }

    static int[] packet(int[] unit, int seed, int epoch, int count, int peer, int bearer) {
        try {
            byte[] key = new byte[16];
            for (int i = 0; i < 16; i++) {
                key[i] = (byte) ((seed >> 8 * (i & 3)) + 17 * i + 29 * epoch);
            }
            Cipher aes = Cipher.getInstance("AES/ECB/NoPadding");
            aes.init(Cipher.ENCRYPT_MODE, new SecretKeySpec(key, "AES"));
            int[] packet = new int[unit.length + 1];
            packet[0] = 128 + (count & 63);
            for (int i = 0; i < unit.length; i++) {
                ByteBuffer in = ByteBuffer.allocate(16).putInt(0, count).putInt(12, i / 16);
                in.put(4, (byte) (8 * bearer + 4 * peer));
                packet[i + 1] = unit[i] ^ aes.doFinal(in.array())[i % 16] & 255;
            }
            return packet;
        } catch (GeneralSecurityException e) {
            throw new IllegalStateException(e);
        }
    }

    /** All that can be asked of a house of one bearer, but for the bytes of blocks and units. */
    static int[] everything(House h) {
        IntStream.Builder all = IntStream.builder();
        for (int peer = 0; peer < 2; peer++) {
            for (int what : upTo(12)) {
                all.add(h.sender(peer, 0, what)).add(h.receiver(peer, 0, what)).add(h.process(peer, what / 3, what % 3));
            }
            for (int what : upTo(6)) {
                all.add(h.delivered(peer, 0, what));
            }
            all.add(h.block(peer, -1)).add(h.unit(peer, 0, 0));
        }
        for (int what : upTo(7)) {
            all.add(h.world(what));
        }
        return all.build().toArray();
    }

    static int sumOf(int sum, int[] unit) {
        int s = 31 * sum + unit.length;
        for (int value : unit) {
            s = 31 * s + value;
        }
        return s;
    }
}
