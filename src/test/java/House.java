/** A BearerHouse that counts its calls: what it answers behind the 512th one is free, so no test may ask for that. */
final class House {
    static final int CALLS = 512;

    private final BearerHouse house;
    private int calls;

    House(int bearers, int seed) {
        house = new BearerHouse(bearers, seed);
    }

    int callsLeft() {
        return CALLS - calls;
    }

    private BearerHouse counted() {
        calls++;
        if (calls > CALLS) {
            throw new IllegalStateException("a test makes more than 512 calls of one object");
        }
        return house;
    }

    int feed(int a, int b, int c, int d, int e) {
        return counted().feed(a, b, c, d, e);
    }

    int end(int n) {
        return counted().end(n);
    }

    int send(int peer, int bearer) {
        return counted().send(peer, bearer);
    }

    boolean rate(int bearer, int r) {
        return counted().rate(bearer, r);
    }

    int tick(int g0, int g1, int faults) {
        return counted().tick(g0, g1, faults);
    }

    int renew() {
        return counted().renew();
    }

    int block(int peer, int i) {
        return counted().block(peer, i);
    }

    int sender(int peer, int bearer, int what) {
        return counted().sender(peer, bearer, what);
    }

    int receiver(int peer, int bearer, int what) {
        return counted().receiver(peer, bearer, what);
    }

    int delivered(int peer, int bearer, int what) {
        return counted().delivered(peer, bearer, what);
    }

    int unit(int peer, int bearer, int i) {
        return counted().unit(peer, bearer, i);
    }

    int process(int peer, int k, int what) {
        return counted().process(peer, k, what);
    }

    int world(int what) {
        return counted().world(what);
    }
}
