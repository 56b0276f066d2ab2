/** States in which boundary cases are looked at. Each store is made anew by the same calls. */
enum Stage {
    EMPTY(0), HELD(4), FULL(40);

    final int versions;

    Stage(int versions) {
        this.versions = versions;
    }

    CausalStore make() {
        CausalStore x = new CausalStore();
        if (this != EMPTY) {
            hold(x);
        }
        if (this == FULL) {
            fill(x);
        }
        return x;
    }

    /**
     * Centre 0 shows 0 and 1 and holds 3; centre 1 shows 2 and 3 and holds 1; centre 2 shows 2.
     * Client 0 is at centre 0 and has seen 0 and 1, client 1 at centre 1 and has seen 2, client 2
     * has gone to centre 1 and has seen 2 and 3.
     */
    private static void hold(CausalStore x) {
        x.write(0, 0, 11);
        x.write(0, 1, 12);
        x.write(1, 1, 13);
        x.deliver(1, 1);
        x.deliver(2, 2);
        x.move(2, 1);
        x.read(2, 1);
        x.write(2, 5, Integer.MIN_VALUE);
        x.deliver(3, 0);
    }

    // The last version is held at centre 2.
    private static void fill(CausalStore x) {
        for (int version = HELD.versions; version < FULL.versions; version++) {
            x.write(version % 3, version % 5, version);
        }
        x.deliver(39, 2);
    }
}
