import java.util.ArrayList;
import java.util.LinkedHashSet;
import java.util.List;
import java.util.Map;
import java.util.Set;
import java.util.TreeMap;
import java.util.TreeSet;
import javax.crypto.Cipher;
import javax.crypto.spec.SecretKeySpec;

/**
 * The document told a second time, with the collections and the AES of the Java library:
 * slow and plain, so that it can be read beside the document. HouseAgainstPlainTest compares both.
 */
final class PlainHouse {
    static final int NONE = -1;

    /** What the runs have reached: HouseAgainstPlainTest asks that nothing important stays unreached. */
    final Set<String> reached = new TreeSet<>();

    static final class Packet {
        final int count;
        final List<Cell> cells = new ArrayList<>();
        boolean begunToGo;

        Packet(int count) {
            this.count = count;
        }
    }

    static final class Cell {
        final Packet packet;
        final int value;
        boolean first;
        boolean last;
        boolean confirmed;

        Cell(Packet packet, int value) {
            this.packet = packet;
            this.value = value;
        }
    }

    static final class Kept {
        int[] unit;
        Packet packet;
    }

    static final class SentPiece {
        final List<Cell> field = new ArrayList<>();
        final TreeSet<Integer> again = new TreeSet<>();
        int tries;
        boolean confirmed;
    }

    final class Sender {
        final int p;
        final int b;
        final TreeMap<Integer, Kept> kept = new TreeMap<>();
        List<Cell> waiting = new ArrayList<>();
        TreeMap<Integer, SentPiece> pieces = new TreeMap<>();
        int nextCount;
        int a;
        int s;
        int pollTimer;
        boolean asked;
        boolean failed;
        Integer polled;
        int sincePoll;
        int bucket;
        int dataMade;
        int notNew;
        int statusCame;

        Sender(int p, int b) {
            this.p = p;
            this.b = b;
        }

        int lowest() {
            return kept.isEmpty() ? nextCount : kept.firstKey();
        }

        int againBytes() {
            int n = 0;
            for (SentPiece piece : pieces.values()) {
                n += piece.again.size();
            }
            return n;
        }

        void letWait(Packet packet) {
            packet.cells.get(0).first = true;
            packet.cells.get(packet.cells.size() - 1).last = true;
            waiting.addAll(packet.cells);
        }

        void letUnitWait(int count) {
            Kept k = kept.get(count);
            k.packet = new Packet(count);
            k.packet.cells.add(new Cell(k.packet, 128 + (count & 63)));
            int[] stream = keystream(k.unit.length, count, p, b);
            for (int i = 0; i < k.unit.length; i++) {
                k.packet.cells.add(new Cell(k.packet, k.unit[i] ^ stream[i]));
            }
            letWait(k.packet);
        }

        void confirmUnit(int count) {
            Kept k = kept.remove(count);
            if (!k.packet.begunToGo) {
                if (waiting.removeIf(c -> c.packet == k.packet)) {
                    reached.add("taken out of WAITING");
                }
            } else if (waiting.stream().anyMatch(c -> c.packet == k.packet)) {
                reached.add("confirmed with some bytes gone");
            }
        }

        void comesAgain(int number, int from, int to) {
            SentPiece piece = pieces.get(number);
            if (piece.again.isEmpty()) {
                piece.tries++;
                if (piece.tries == 5) {
                    failed = true;
                    reached.add("FAILED");
                }
            }
            for (int i = from; i <= to && i < piece.field.size(); i++) {
                piece.again.add(i);
            }
        }

        List<Integer> makeData(int n) {
            if (failed) {
                return null;
            }
            if (againBytes() > 0) {
                return makeAgain(n);
            }
            if (waiting.isEmpty() || s - a >= 16 || n < 3) {
                return null;
            }
            SentPiece piece = new SentPiece();
            while (!waiting.isEmpty() && piece.field.size() < 240) {
                List<Cell> longer = new ArrayList<>(piece.field);
                longer.add(waiting.get(0));
                if (2 + lengths(longer).size() + longer.size() > n) {
                    break;
                }
                piece.field.add(waiting.remove(0));
                piece.field.get(piece.field.size() - 1).packet.begunToGo = true;
            }
            if (piece.field.size() == 240) {
                reached.add("a field of 240");
            }
            pieces.put(s, piece);
            s++;
            return data(s - 1, piece, 0, piece.field.size());
        }

        List<Integer> makeAgain(int n) {
            for (Map.Entry<Integer, SentPiece> entry : pieces.entrySet()) {
                SentPiece piece = entry.getValue();
                if (piece.again.isEmpty()) {
                    continue;
                }
                int from = piece.again.first();
                int to = from;
                while (piece.again.contains(to)) {
                    to++;
                }
                boolean whole = to - from == piece.field.size();
                if (!whole || 2 + lengths(piece.field).size() + piece.field.size() > n) {
                    if (n < 4) {
                        return null;
                    }
                    int end = from + 1;
                    while (end < to && 3 + lengths(piece.field.subList(from, end + 1)).size() + end + 1 - from <= n) {
                        end++;
                    }
                    to = end;
                    reached.add("a PART");
                }
                for (int i = from; i < to; i++) {
                    piece.again.remove(i);
                }
                notNew++;
                return data(entry.getKey(), piece, from, to);
            }
            return null;
        }

        List<Integer> data(int number, SentPiece piece, int from, int to) {
            List<Cell> cells = piece.field.subList(from, to);
            boolean part = cells.size() < piece.field.size();
            boolean poll = asked || sincePoll >= 3 || waiting.isEmpty() && againBytes() == 0 || s - a == 16;
            dataMade++;
            sincePoll++;
            if (poll) {
                asked = false;
                polled = s - 1;
                pollTimer = 10;
                sincePoll = 0;
            }
            if (s - a == 16) {
                reached.add("16 pieces on their way");
            }
            List<Integer> lengths = lengths(cells);
            if (part && !lengths.isEmpty()) {
                reached.add("a PART with LENGTHS");
            }
            if (lengths.size() > 1) {
                reached.add("several LENGTHS");
            }
            List<Integer> air = new ArrayList<>();
            air.add(128 + (part ? 64 : 0) + (poll ? 32 : 0) + (cells.get(0).first ? 0 : 16)
                + (cells.get(cells.size() - 1).last ? 0 : 8) + (lengths.isEmpty() ? 0 : 4));
            air.add((number & 63) + (part && to == piece.field.size() ? 128 : 0));
            if (part) {
                air.add(from);
            }
            air.addAll(lengths);
            for (Cell c : cells) {
                air.add(c.value);
            }
            return air;
        }

        void statusComes(List<Integer> air) {
            statusCame++;
            int ack = a + (air.get(1) - a & 63);
            if (ack > s) {
                reached.add("a STATUS that is left");
                return;
            }
            List<int[]> entries = new ArrayList<>();
            int at = 2;
            for (int i = 0; i < air.get(0); i++) {
                int number = a + (air.get(at) - a & 63);
                if (air.get(at) < 128) {
                    entries.add(new int[] {number, 0, 255});
                    at++;
                } else {
                    entries.add(new int[] {number, air.get(at + 1), air.get(at + 2)});
                    at += 3;
                    reached.add("an entry with a run");
                }
            }
            Set<Integer> named = new LinkedHashSet<>();
            entries.forEach(e -> named.add(e[0]));
            for (int k = a; k < ack; k++) {
                if (!named.contains(k)) {
                    SentPiece piece = pieces.get(k);
                    piece.confirmed = true;
                    piece.again.clear();
                    piece.field.forEach(c -> c.confirmed = true);
                }
            }
            for (int[] e : entries) {
                if (e[0] < s && !pieces.get(e[0]).confirmed) {
                    comesAgain(e[0], e[1], e[2]);
                }
            }
            while (a < s && pieces.get(a).confirmed) {
                a++;
            }
            if (polled == null || polled < ack) {
                pollTimer = 0;
            }
            for (Integer count : new ArrayList<>(kept.keySet())) {
                if (kept.get(count).packet.cells.stream().allMatch(c -> c.confirmed)) {
                    confirmUnit(count);
                }
            }
        }

        void pollTimerEnds() {
            asked = true;
            if (againBytes() == 0 && a < s && (waiting.isEmpty() || s - a == 16)) {
                comesAgain(a, 0, 255);
                reached.add("the POLL timer brings a piece");
            }
        }
    }

    static List<Integer> lengths(List<Cell> cells) {
        List<Integer> lengths = new ArrayList<>();
        int many = 0;
        for (int i = 0; i + 1 < cells.size(); i++) {
            many++;
            if (cells.get(i).last) {
                lengths.add(many + 128);
                many = 0;
            }
        }
        if (!lengths.isEmpty()) {
            lengths.set(lengths.size() - 1, lengths.get(lengths.size() - 1) - 128);
        }
        return lengths;
    }

    static final class CamePiece {
        final TreeMap<Integer, Cell> cells = new TreeMap<>();
        Integer size;

        boolean whole() {
            return size != null && cells.size() == size;
        }
    }

    final class Receiver {
        final int p;
        final int b;
        TreeMap<Integer, CamePiece> pieces = new TreeMap<>();
        int r;
        int h;
        int ms;
        int x;
        Integer polls;
        boolean wanted;
        int reorder;
        int prohibit;
        int statusMade;
        int dataCame;
        int nothingNew;
        List<Integer> begun;
        final TreeMap<Integer, int[]> stored = new TreeMap<>();
        int next;
        int bytes;
        int doubles;
        int sum;
        int[] latest = {};
        final List<int[]> all = new ArrayList<>();

        Receiver(int p, int b) {
            this.p = p;
            this.b = b;
        }

        boolean whole(int number) {
            return pieces.containsKey(number) && pieces.get(number).whole();
        }

        void lookAtPolls() {
            if (polls != null && polls < ms) {
                wanted = true;
                polls = null;
            }
        }

        void dataCome(List<Integer> air) {
            dataCame++;
            int head = air.get(0);
            boolean poll = (head & 32) != 0;
            int number = r + (air.get(1) - r & 63);
            if (number >= r + 32) {
                nothingNew++;
                reached.add("old DATA");
                if (poll) {
                    wanted = true;
                }
                return;
            }
            boolean part = (head & 64) != 0;
            int at = part ? 3 : 2;
            int offset = part ? air.get(2) : 0;
            List<Integer> ends = new ArrayList<>();
            if ((head & 4) != 0) {
                int where = 0;
                boolean more = true;
                while (more) {
                    where += air.get(at) & 127;
                    more = air.get(at) >= 128;
                    ends.add(where - 1);
                    at++;
                }
            }
            int many = air.size() - at;
            CamePiece piece = pieces.computeIfAbsent(number, k -> new CamePiece());
            boolean anyNew = false;
            for (int i = 0; i < many; i++) {
                Cell c = new Cell(null, air.get(at + i));
                c.first = i == 0 ? (head & 16) == 0 : ends.contains(i - 1);
                c.last = i == many - 1 ? (head & 8) == 0 : ends.contains(i);
                anyNew |= piece.cells.putIfAbsent(offset + i, c) == null;
            }
            if (!part || air.get(1) >= 128) {
                piece.size = offset + many;
            }
            if (!anyNew) {
                nothingNew++;
                reached.add("DATA with nothing new");
            }
            h = Math.max(h, number + 1);
            while (whole(ms)) {
                ms++;
                lookAtPolls();
            }
            while (whole(r)) {
                hand(pieces.remove(r));
                r++;
                ms = Math.max(ms, r);
                lookAtPolls();
            }
            if (reorder > 0 && x <= r) {
                reorder = 0;
            }
            if (reorder == 0 && h > r) {
                reorder = 6;
                x = h;
            }
            if (poll) {
                polls = number;
            }
            lookAtPolls();
        }

        void reorderEnds() {
            reached.add("the REORDER timer ends");
            ms = Math.max(ms, x);
            while (whole(ms)) {
                ms++;
            }
            wanted = true;
            lookAtPolls();
            if (h > ms) {
                reorder = 6;
                x = h;
                reached.add("the REORDER timer runs again");
            }
        }

        List<Integer> makeStatus(int n) {
            List<Integer> entries = new ArrayList<>();
            int many = 0;
            int ack = ms;
            for (int k = r; k < ms; k++) {
                if (whole(k)) {
                    continue;
                }
                List<Integer> runs = runs(k);
                int more = pieces.containsKey(k) ? runs.size() / 3 : 1;
                if (2 + entries.size() + runs.size() > n || many + more > 15) {
                    ack = k;
                    reached.add("a STATUS that stops");
                    break;
                }
                entries.addAll(runs);
                many += more;
            }
            List<Integer> air = new ArrayList<>(List.of(many, ack & 63));
            air.addAll(entries);
            wanted = false;
            prohibit = 5;
            statusMade++;
            return air;
        }

        List<Integer> runs(int k) {
            if (!pieces.containsKey(k)) {
                return List.of(k & 63);
            }
            CamePiece piece = pieces.get(k);
            List<Integer> runs = new ArrayList<>();
            int behind = piece.cells.lastKey() + 1;
            int from = -1;
            for (int i = 0; i < behind; i++) {
                boolean missing = !piece.cells.containsKey(i);
                if (missing && from < 0) {
                    from = i;
                }
                if (!missing && from >= 0) {
                    runs.addAll(List.of((k & 63) + 128, from, i - 1));
                    from = -1;
                    reached.add("a run in a field's midst");
                }
            }
            if (piece.size == null) {
                runs.addAll(List.of((k & 63) + 128, behind, 255));
                reached.add("a run up to an unknown end");
            }
            return runs;
        }

        void hand(CamePiece piece) {
            for (Cell c : piece.cells.values()) {
                if (c.first) {
                    begun = new ArrayList<>();
                }
                if (begun == null) {
                    reached.add("a byte that is left");
                    continue;
                }
                begun.add(c.value);
                if (c.last) {
                    List<Integer> packet = begun;
                    begun = null;
                    packetIsThere(packet);
                }
            }
        }

        void packetIsThere(List<Integer> packet) {
            if (packet.get(0) < 128) {
                reportIsThere(packet);
                return;
            }
            int count = next - 32;
            while ((count & 63) != packet.get(0) - 128) {
                count++;
            }
            if (count < next || stored.containsKey(count)) {
                doubles++;
                reached.add(count < next ? "a DOUBLE below NEXT" : "a DOUBLE that is STORED");
                return;
            }
            int[] unit = keystream(packet.size() - 1, count, 1 - p, b);
            for (int i = 0; i < unit.length; i++) {
                unit[i] ^= packet.get(i + 1);
            }
            stored.put(count, unit);
            while (stored.containsKey(next)) {
                latest = stored.remove(next);
                all.add(latest);
                next++;
                bytes += latest.length;
                sum = 31 * sum + latest.length;
                for (int v : latest) {
                    sum = 31 * sum + v;
                }
            }
        }

        void reportIsThere(List<Integer> packet) {
            Sender s = senders[p][b];
            int reported = packet.get(0) * 256 + packet.get(1);
            StringBuilder bits = new StringBuilder();
            for (int i = 2; i < packet.size(); i++) {
                bits.append(Integer.toBinaryString(256 + packet.get(i)).substring(1));
            }
            for (Integer count : new ArrayList<>(s.kept.keySet())) {
                int i = count - reported - 1;
                if (count < reported) {
                    s.confirmUnit(count);
                    reached.add("confirmed by NEXT of a REPORT");
                } else if (i >= 0 && i < bits.length() && bits.charAt(i) == '1') {
                    s.confirmUnit(count);
                    reached.add("confirmed by a bit of a REPORT");
                }
            }
        }

        Packet report() {
            StringBuilder bits = new StringBuilder();
            if (!stored.isEmpty()) {
                for (int k = next + 1; k <= stored.lastKey(); k++) {
                    bits.append(stored.containsKey(k) ? '1' : '0');
                }
            }
            while (bits.length() % 8 != 0) {
                bits.append('0');
            }
            Packet packet = new Packet(-1);
            packet.cells.add(new Cell(packet, next >> 8 & 63));
            packet.cells.add(new Cell(packet, next & 255));
            for (int i = 0; i < bits.length(); i += 8) {
                packet.cells.add(new Cell(packet, Integer.parseInt(bits.substring(i, i + 8), 2)));
            }
            return packet;
        }

        void isMadeAnew() {
            for (int k = r; k < h; k++) {
                if (whole(k)) {
                    hand(pieces.get(k));
                    reached.add("a piece HANDED as the link is made anew");
                } else {
                    begun = null;
                }
            }
            begun = null;
            pieces = new TreeMap<>();
            r = 0;
            h = 0;
            ms = 0;
            x = 0;
            polls = null;
            wanted = false;
            reorder = 0;
            prohibit = 0;
        }
    }

    static final class Process {
        List<Integer> block;
        int sendings;
        boolean come;
    }

    final int bearers;
    final int seed;
    final Sender[][] senders = new Sender[2][3];
    final Receiver[][] receivers = new Receiver[2][3];
    final Process[][] processes = new Process[2][4];
    final List<List<Integer>> latestBlocks = new ArrayList<>();
    final int[] rates = {16, 16, 16};
    List<Integer> tape = new ArrayList<>();
    final int[] world = new int[7];

    PlainHouse(int bearers, int seed) {
        this.bearers = bearers == 1 || bearers == 3 ? bearers : 2;
        this.seed = seed;
        for (int p = 0; p < 2; p++) {
            for (int b = 0; b < 3; b++) {
                senders[p][b] = new Sender(p, b);
                receivers[p][b] = new Receiver(p, b);
            }
            for (int k = 0; k < 4; k++) {
                processes[p][k] = new Process();
            }
            latestBlocks.add(null);
        }
    }

    int[] keystream(int size, int count, int p, int b) {
        try {
            byte[] key = new byte[16];
            for (int i = 0; i < 16; i++) {
                key[i] = (byte) ((seed >> 8 * (i & 3)) + 17 * i + 29 * world[1]);
            }
            Cipher aes = Cipher.getInstance("AES/ECB/NoPadding");
            aes.init(Cipher.ENCRYPT_MODE, new SecretKeySpec(key, "AES"));
            int[] stream = new int[size];
            for (int i = 0; i < size; i += 16) {
                byte[] in = java.nio.ByteBuffer.allocate(16).putInt(count).put((byte) (8 * b + 4 * p))
                    .position(12).putInt(i / 16).array();
                byte[] out = aes.doFinal(in);
                for (int k = 0; k < 16 && i + k < size; k++) {
                    stream[i + k] = out[k] & 255;
                }
            }
            return stream;
        } catch (java.security.GeneralSecurityException e) {
            throw new IllegalStateException(e);
        }
    }

    boolean there(int peer, int bearer) {
        return (peer == 0 || peer == 1) && bearer >= 0 && bearer < bearers;
    }

    int feed(int... words) {
        if (tape.size() > 100) {
            return NONE;
        }
        for (int word : words) {
            tape.addAll(List.of(word >>> 24, word >>> 16 & 255, word >>> 8 & 255, word & 255));
        }
        return tape.size();
    }

    int end(int n) {
        if (n < 0 || n > tape.size()) {
            return NONE;
        }
        tape = new ArrayList<>(tape.subList(0, n));
        return n;
    }

    int send(int peer, int bearer) {
        if (!there(peer, bearer) || tape.isEmpty()) {
            return NONE;
        }
        Sender s = senders[peer][bearer];
        if (s.nextCount >= s.lowest() + 24) {
            reached.add("a COUNT of L + 24");
            return NONE;
        }
        Kept k = new Kept();
        k.unit = tape.stream().mapToInt(v -> v).toArray();
        s.kept.put(s.nextCount, k);
        s.letUnitWait(s.nextCount);
        tape = new ArrayList<>();
        return s.nextCount++;
    }

    boolean rate(int bearer, int r) {
        if (!there(0, bearer) || r < 0 || r > 200) {
            return false;
        }
        rates[bearer] = r;
        return true;
    }

    int tick(int g0, int g1, int faults) {
        if (g0 < 0 || g0 > 250 || g1 < 0 || g1 > 250) {
            return NONE;
        }
        world[0]++;
        for (int p = 0; p < 2; p++) {
            for (int b = 0; b < bearers; b++) {
                runTimers(senders[p][b], receivers[p][b]);
            }
        }
        for (int p = 0; p < 2; p++) {
            for (int b = 0; b < bearers; b++) {
                Sender s = senders[p][b];
                if (!s.failed && s.pollTimer == 0 && s.a < s.s && s.waiting.isEmpty() && s.againBytes() == 0) {
                    s.pollTimer = 10;
                    reached.add("the POLL timer is started by a tick");
                }
                if (s.bucket <= 5 * rates[b]) {
                    s.bucket = Math.min(s.bucket + rates[b], 5 * rates[b]);
                } else {
                    reached.add("a BUCKET that is above");
                }
            }
        }
        int first = peerSends(0, g0, (faults & 1) != 0, (faults & 4) != 0);
        int second = peerSends(1, g1, (faults & 2) != 0, (faults & 8) != 0);
        return (first & 1) + 2 * (second & 1) + 4 * (first >> 1) + 8 * (second >> 1);
    }

    void runTimers(Sender s, Receiver r) {
        if (s.pollTimer > 0) {
            s.pollTimer--;
            if (s.pollTimer == 0) {
                s.pollTimerEnds();
            }
        }
        if (r.reorder > 0) {
            r.reorder--;
            if (r.reorder == 0) {
                r.reorderEnds();
            }
        }
        if (r.prohibit > 0) {
            r.prohibit--;
        }
    }

    /** 1 if a block was sent, + 2 if it came for the first time. */
    int peerSends(int p, int g, boolean lost, boolean turned) {
        Process q = processes[p][world[0] & 3];
        if (q.block == null) {
            q.block = newBlock(p, g);
        }
        latestBlocks.set(p, q.block);
        if (q.block == null) {
            return 0;
        }
        q.sendings++;
        world[2]++;
        int answer = 1;
        if (lost) {
            world[3]++;
        } else if (!q.come) {
            q.come = true;
            answer = 3;
            workOn(1 - p, q.block);
        }
        boolean yes = q.come;
        if (turned) {
            world[4]++;
            yes = !yes;
        }
        if (yes) {
            processes[p][world[0] & 3] = new Process();
        } else if (q.sendings == 3) {
            world[5]++;
            processes[p][world[0] & 3] = new Process();
            reached.add("a block DROPPED");
        }
        return answer;
    }

    List<Integer> newBlock(int p, int g) {
        List<Integer> block = new ArrayList<>();
        for (int b = 0; b < bearers; b++) {
            while (senders[p][b].bucket > 0
                && addPart(block, p, b, Math.min(g - block.size(), senders[p][b].bucket) - 2)) {
                reached.add("a PART by BUCKET");
            }
        }
        for (int b = 0; b < bearers; b++) {
            while (addPart(block, p, b, g - block.size() - 2)) {
                reached.add("a PART of what is left");
            }
        }
        if (block.isEmpty()) {
            return null;
        }
        if (block.size() < g) {
            block.add(255);
        }
        while (block.size() < g) {
            block.add(0);
        }
        return block;
    }

    boolean addPart(List<Integer> block, int p, int b, int n) {
        if (n < 1) {
            return false;
        }
        Receiver r = receivers[p][b];
        List<Integer> made;
        if (r.wanted && r.prohibit == 0 && n >= 2) {
            made = r.makeStatus(n);
        } else {
            made = senders[p][b].makeData(n);
        }
        if (made == null) {
            return false;
        }
        block.add(b);
        block.add(made.size());
        block.addAll(made);
        senders[p][b].bucket -= made.size() + 2;
        return true;
    }

    void workOn(int p, List<Integer> block) {
        int at = 0;
        while (at < block.size() && block.get(at) != 255) {
            int b = block.get(at);
            int size = block.get(at + 1);
            List<Integer> air = block.subList(at + 2, at + 2 + size);
            world[6]++;
            if (air.get(0) >= 128) {
                receivers[p][b].dataCome(air);
            } else {
                senders[p][b].statusComes(air);
            }
            at += 2 + size;
        }
    }

    int renew() {
        for (int p = 0; p < 2; p++) {
            for (int b = 0; b < bearers; b++) {
                receivers[p][b].isMadeAnew();
            }
        }
        world[1]++;
        for (int p = 0; p < 2; p++) {
            for (int b = 0; b < bearers; b++) {
                Sender s = senders[p][b];
                s.pieces = new TreeMap<>();
                s.a = 0;
                s.s = 0;
                s.asked = false;
                s.failed = false;
                s.polled = null;
                s.pollTimer = 0;
                s.sincePoll = 0;
                s.waiting = new ArrayList<>();
                s.letWait(receivers[p][b].report());
                for (Integer count : s.kept.keySet()) {
                    s.letUnitWait(count);
                }
            }
            for (int k = 0; k < 4; k++) {
                processes[p][k] = new Process();
            }
        }
        return world[1];
    }

    int block(int peer, int i) {
        if (peer != 0 && peer != 1 || latestBlocks.get(peer) == null) {
            return NONE;
        }
        List<Integer> block = latestBlocks.get(peer);
        return i == -1 ? block.size() : i < 0 || i >= block.size() ? NONE : block.get(i);
    }

    int sender(int peer, int bearer, int what) {
        if (!there(peer, bearer) || what < 0 || what > 11) {
            return NONE;
        }
        Sender s = senders[peer][bearer];
        return new int[] {s.a, s.s, s.kept.size(), s.waiting.size(), s.againBytes(), s.pollTimer,
            s.failed ? 1 : 0, s.bucket, s.dataMade, s.notNew, s.statusCame, s.nextCount}[what];
    }

    int receiver(int peer, int bearer, int what) {
        if (!there(peer, bearer) || what < 0 || what > 11) {
            return NONE;
        }
        Receiver r = receivers[peer][bearer];
        int bytes = 0;
        for (CamePiece piece : r.pieces.values()) {
            bytes += piece.cells.size();
        }
        return new int[] {r.r, r.h, r.ms, r.x, r.reorder, r.prohibit, r.wanted ? 1 : 0, bytes,
            r.statusMade, r.dataCame, r.nothingNew, r.polls == null ? NONE : r.polls}[what];
    }

    int delivered(int peer, int bearer, int what) {
        if (!there(peer, bearer) || what < 0 || what > 5) {
            return NONE;
        }
        Receiver r = receivers[peer][bearer];
        return new int[] {r.next, r.bytes, r.doubles, r.stored.size(), r.sum, r.latest.length}[what];
    }

    int unit(int peer, int bearer, int i) {
        if (!there(peer, bearer)) {
            return NONE;
        }
        int[] latest = receivers[peer][bearer].latest;
        return i < 0 || i >= latest.length ? NONE : latest[i];
    }

    int process(int peer, int k, int what) {
        if (peer != 0 && peer != 1 || k < 0 || k > 3 || what < 0 || what > 2) {
            return NONE;
        }
        Process q = processes[peer][k];
        return new int[] {q.sendings, q.block == null ? 0 : q.block.size(), q.come ? 1 : 0}[what];
    }

    int world(int what) {
        return what < 0 || what > 6 ? NONE : world[what];
    }
}
