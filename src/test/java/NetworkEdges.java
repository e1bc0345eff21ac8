/** The edges that promises 13 to 19 name, sentence by sentence. */
final class NetworkEdges {
    /** Addresses 64 to 79: network 0 has 64 to 71, network 1 72 to 75, network 2 76 to 79. */
    private static final Edge.Steps FULL = Edge.busy("pool 64 12;net 0 13;net 1 14;net 2 14;");
    /** Network 0 has the current block 4 to 7 and the old block 0 to 3; 8 to 15 are free. */
    private static final Edge.Steps OVERLAP = Edge.busy("pool 0 12;net 0 14;host 0 0;", x -> x.request(0),
            x -> x.renumber(0, 14));

    private NetworkEdges() {
    }

    static void lookAtAll() {
        promise13();
        promise13Refused();
        promise14();
        promise14Refused();
        promise15Greater();
        promise15Smaller();
        promise15Arguments();
        promise15Refused();
        promise15Leases();
        promise16();
        promise16Refused();
        promise17();
        promise17Order();
        promise17Refused();
        promise18();
        promise19();
    }

    private static void promise13() {
        Edge.says(13, "Places a block as the current block of a network that has none.");
        Edge.saves(Edge.from("pool 64 10;"), 64, x -> x.assign(0, 12));
        Edge.saves(Edge.busy("pool 64 10;"), 64, x -> x.assign(0, 12));
        PoolRenumberer x = new PoolRenumberer();
        x.addPool(64, 10);
        x.assign(3, 12);
        int[] want = {64, 12, -9, -9, -9, 0};
        for (int what = 0; what <= 5; what++) {
            Edge.is(x.network(3, what), want[what]);
        }
        Edge.is(x.count(2), 1);
        Edge.is(x.count(7), 48);

        Edge.says(13, "`network`: 0 to 11");
        for (int network = 0; network <= 11; network++) {
            int some = network;
            Edge.saves(Edge.from("pool 64 10;"), 64, y -> y.assign(some, 16));
        }

        Edge.says(13, "`length`: 5 to 16");
        for (int length = 5; length <= 16; length++) {
            int some = length;
            Edge.saves(Edge.from("pool 61440 4;"), 61440, y -> y.assign(0, some));
            Edge.saves(Edge.from("pool 61440 4;policy 3;"), 65536 - (1 << (16 - some)), y -> y.assign(0, some));
        }

        Edge.says(13, "Returns the beginning of the block;");
        Edge.saves(Edge.from("pool 0 14;"), 0, y -> y.assign(0, 16));
        Edge.saves(Edge.from("pool 65532 14;policy 3;"), 65535, y -> y.assign(0, 16));
        Edge.saves(Edge.from("pool 65532 14;policy 3;net 0 16;net 1 15;"), 65534, y -> y.assign(2, 16));
    }

    private static void promise13Refused() {
        Edge.says(13, "INVALID_ARGUMENT if an argument is out of range;");
        for (int network : Edge.outside(0, 11)) {
            Edge.refused(Edge.busy("pool 64 10;"), -1, x -> x.assign(network, 12));
            Edge.refused(Edge.NEW, -1, x -> x.assign(network, 12));
        }
        for (int length : Edge.outside(5, 16)) {
            // A length of 4 would fit into the pool, and network 0 has a block in the other scene.
            Edge.refused(Edge.from("pool 0 4;"), -1, x -> x.assign(0, length));
            Edge.refused(FULL, -1, x -> x.assign(0, length));
            Edge.refused(FULL, -1, x -> x.assign(3, length));
        }

        Edge.says(13, "ILLEGAL_STATE if the network has a block;");
        Edge.refused(Edge.busy("pool 64 10;net 0 12;"), -2, x -> x.assign(0, 12));
        Edge.refused(Edge.busy("pool 64 10;net 11 16;"), -2, x -> x.assign(11, 16));
        Edge.refused(OVERLAP, -2, x -> x.assign(0, 14));
        // It could not be placed either.
        Edge.refused(FULL, -2, x -> x.assign(0, 16));
        Edge.refused(OVERLAP, -2, x -> x.assign(0, 5));
        Edge.saves(Edge.from("pool 64 10;net 0 12;", x -> x.release(0)), 64, x -> x.assign(0, 12));

        Edge.says(13, "CAPACITY_EXCEEDED if the block cannot be placed.");
        Edge.refused(Edge.NEW, -3, x -> x.assign(0, 16));
        Edge.refused(FULL, -3, x -> x.assign(3, 16));
        Edge.refused(FULL, -3, x -> x.assign(11, 5));
        Edge.refused(Edge.from("pool 0 6;"), -3, x -> x.assign(0, 5));
        Edge.saves(Edge.from("pool 0 6;"), 0, x -> x.assign(0, 6));
        // Two pools that would be buddies; free addresses that are no block; a free block that is just too small.
        Edge.refused(Edge.from("pool 0 14;pool 4 14;"), -3, x -> x.assign(0, 13));
        Edge.refused(Edge.from("pool 0 14;net 0 16;"), -3, x -> x.assign(1, 14));
        Edge.refused(Edge.from("pool 0 14;net 0 16;net 1 16;net 2 16;", x -> x.release(1)), -3, x -> x.assign(1, 15));
        Edge.refused(Edge.from("pool 0 14;net 0 16;net 1 15;"), -3, x -> x.assign(2, 15));
        Edge.refused(OVERLAP, -3, x -> x.assign(1, 12));
        Edge.saves(OVERLAP, 8, x -> x.assign(1, 13));
    }

    private static void promise14() {
        Edge.says(14, "Takes all blocks of a network.");
        Edge.Steps both = Edge.busy("pool 0 12;net 0 14;net 1 14;host 0 0;", x -> x.renumber(0, 13));
        Edge.saves(both, 1, x -> x.release(0));
        PoolRenumberer x = new PoolRenumberer();
        both.on(x);
        Edge.is(x.count(7), 0);
        Edge.is(x.release(0), 1);
        Edge.is(x.count(7), 12);
        Edge.is(x.count(2), 1);
        Edge.is(x.count(3), 0);
        for (int what = 0; what <= 4; what++) {
            Edge.is(x.network(0, what), -9);
        }
        Edge.is(x.nextEvent(), -9);
        Edge.is(x.pass(100), 0);
        Edge.is(x.assign(0, 13), 8);
        Edge.is(x.network(0, 2), -9);

        Edge.says(14, "Its hosts belong to no network then.");
        x = new PoolRenumberer();
        Edge.from("pool 0 12;net 0 14;net 1 14;host 0 0;host 15 0 sticky;host 7 1;").on(x);
        x.release(0);
        for (int what = 0; what <= 5; what++) {
            Edge.is(x.host(0, what), -9);
            Edge.is(x.host(15, what), -9);
        }
        Edge.is(x.host(7, 0), 1);
        Edge.is(x.count(4), 1);
        Edge.is(x.addHost(15, 1, 0), 2);
        Edge.is(x.host(15, 1), 0);

        Edge.says(14, "`network`: 0 to 11");
        for (int network : new int[] {0, 11}) {
            Edge.saves(Edge.from("pool 0 12;net 0 14;net 11 14;"), 0, y -> y.release(network));
        }

        Edge.says(14, "Returns the number of its hosts;");
        Edge.saves(Edge.from("pool 0 12;net 0 14;net 1 14;host 3 1;"), 0, y -> y.release(0));
        Edge.saves(Edge.from("pool 0 12;net 0 14;net 1 14;host 3 1;"), 1, y -> y.release(1));
        x = new PoolRenumberer();
        Edge.from("pool 0 12;net 0 14;").on(x);
        for (int host = 0; host <= 15; host++) {
            x.addHost(host, 0, host % 2);
        }
        Edge.is(x.release(0), 16);
        Edge.is(x.count(4), 0);
    }

    private static void promise14Refused() {
        Edge.says(14, "INVALID_ARGUMENT if network is out of range;");
        for (int network : Edge.outside(0, 11)) {
            Edge.refused(Edge.NEW, -1, x -> x.release(network));
            Edge.refused(FULL, -1, x -> x.release(network));
        }

        Edge.says(14, "ILLEGAL_STATE if it has no block, or if a host of it has a lease.");
        Edge.refused(Edge.NEW, -2, x -> x.release(0));
        Edge.refused(FULL, -2, x -> x.release(3));
        Edge.refused(FULL, -2, x -> x.release(11));
        Edge.refused(Edge.from("pool 0 12;net 0 14;", x -> x.release(0)), -2, x -> x.release(0));
        String two = "pool 0 12;net 0 14;net 1 14;host 0 0;host 15 0;host 7 1;";
        Edge.refused(Edge.busy(two, x -> x.request(15)), -2, x -> x.release(0));
        Edge.refused(Edge.busy(two, x -> x.request(0)), -2, x -> x.release(0));
        Edge.refused(OVERLAP, -2, x -> x.release(0));
        Edge.refused(Edge.from(two, x -> x.request(0), x -> x.renumber(0, 14), x -> x.request(0)), -2, x -> x.release(0));
        // The new lease is left when the old one has ended.
        Edge.refused(Edge.from(two, x -> x.request(0), x -> x.renumber(0, 14), x -> x.pass(1), x -> x.request(0),
                x -> x.pass(59)), -2, x -> x.release(0));
        // A lease of another network, a lease that ended, and a host that was removed do not matter.
        Edge.saves(Edge.busy(two, x -> x.request(7)), 2, x -> x.release(0));
        Edge.refused(Edge.from(two, x -> x.request(0), x -> x.pass(59)), -2, x -> x.release(0));
        Edge.saves(Edge.from(two, x -> x.request(0), x -> x.pass(60)), 2, x -> x.release(0));
        Edge.saves(Edge.from(two, x -> x.request(0), x -> x.removeHost(0)), 1, x -> x.release(0));
    }

    private static void promise15Greater() {
        Edge.says(15, "Makes the current block of a network greater or smaller, with another length.");
        Edge.saves(Edge.busy("pool 64 10;net 0 12;"), 64, x -> x.resize(0, 11));
        Edge.saves(Edge.busy("pool 64 10;net 0 12;"), 64, x -> x.resize(0, 13));
        PoolRenumberer x = new PoolRenumberer();
        Edge.from("pool 64 10;net 0 12;").on(x);
        x.resize(0, 11);
        Edge.is(x.network(0, 1), 11);
        Edge.is(x.count(7), 32);
        x.resize(0, 16);
        Edge.is(x.network(0, 1), 16);
        Edge.is(x.count(7), 63);

        Edge.says(15, "the block of this length that contains the present one must lie within a pool, and all other addresses "
                + "of it must be free;");
        // As great as the pool, and greater by one length.
        Edge.saves(Edge.from("pool 64 10;net 0 16;"), 64, y -> y.resize(0, 10));
        Edge.refused(Edge.from("pool 64 10;net 0 16;"), -2, y -> y.resize(0, 9));
        Edge.refused(Edge.from("pool 64 10;net 0 16;"), -2, y -> y.resize(0, 5));
        Edge.refused(Edge.from("pool 61440 4;pool 0 14;policy 3;net 0 16;"), -2, y -> y.resize(0, 13));
        // Two pools side by side that would be a block; both are free but for the network.
        Edge.refused(Edge.from("pool 0 10;pool 64 10;net 0 10;"), -2, y -> y.resize(0, 9));
        Edge.refused(Edge.from("pool 0 10;pool 64 10;net 0 16;"), -2, y -> y.resize(0, 9));
        // Only the last address of the greater block is assigned, or the first one.
        Edge.Steps last = Edge.busy("pool 0 12;net 0 13;net 1 14;net 2 15;net 3 16;net 4 16;", y -> y.release(1),
                y -> y.release(2), y -> y.release(3));
        Edge.refused(last, -2, y -> y.resize(0, 12));
        Edge.saves(Edge.busy("pool 0 12;net 0 13;net 1 14;net 2 15;net 3 16;net 4 16;", y -> y.release(1),
                y -> y.release(2), y -> y.release(3), y -> y.release(4)), 0, y -> y.resize(0, 12));
        Edge.Steps first = Edge.busy("pool 0 12;net 0 16;net 1 13;");
        Edge.refused(first, -2, y -> y.resize(1, 12));
        Edge.saves(Edge.busy("pool 0 12;net 0 16;net 1 13;", y -> y.release(0)), 0, y -> y.resize(1, 12));
        // Another network's old block, and the own one.
        Edge.refused(Edge.from("pool 0 12;net 0 14;net 1 14;", y -> y.renumber(1, 13)), -2, y -> y.resize(0, 13));
        Edge.refused(OVERLAP, -2, y -> y.resize(0, 13));
        Edge.refused(Edge.from("pool 0 12;net 0 14;", y -> y.renumber(0, 14), y -> y.pass(99)), -2, y -> y.resize(0, 13));
        Edge.saves(Edge.from("pool 0 12;net 0 14;", y -> y.renumber(0, 14), y -> y.pass(100)), 0, y -> y.resize(0, 13));

        Edge.says(15, "it becomes the current block.");
        x = new PoolRenumberer();
        Edge.from("pool 61440 4;policy 3;net 0 16;").on(x);
        for (int length = 15; length >= 5; length--) {
            int size = 1 << (16 - length);
            Edge.is(x.resize(0, length), 65536 - size);
            Edge.is(x.network(0, 0), 65536 - size);
            Edge.is(x.network(0, 1), length);
            Edge.is(x.owner(65535), 0);
            Edge.is(x.owner(65536 - size), 0);
            Edge.is(x.owner(65535 - size), -9);
        }
    }

    private static void promise15Smaller() {
        Edge.says(15, "If the length is greater, the block of this length with the same beginning becomes the current block.");
        for (int length = 6; length <= 16; length++) {
            int size = 1 << (16 - length);
            int some = length;
            Edge.Steps half = Edge.from("pool 61440 4;policy 3;net 0 5;");
            Edge.saves(half, 63488, x -> x.resize(0, some));
            PoolRenumberer x = new PoolRenumberer();
            half.on(x);
            x.resize(0, length);
            Edge.is(x.network(0, 0), 63488);
            Edge.is(x.network(0, 1), length);
            Edge.is(x.owner(63488 + size - 1), 0);
            Edge.is(x.owner(63488 + size), -9);
        }
        // A full pool and an old block do not matter.
        Edge.saves(FULL, 72, x -> x.resize(1, 15));
        Edge.saves(OVERLAP, 4, x -> x.resize(0, 15));
    }

    private static void promise15Arguments() {
        Edge.says(15, "`network`: 0 to 11");
        Edge.saves(Edge.from("pool 0 12;net 0 14;net 11 14;"), 0, x -> x.resize(0, 15));
        Edge.saves(Edge.from("pool 0 12;net 0 14;net 11 14;"), 4, x -> x.resize(11, 15));

        Edge.says(15, "`length`: 5 to 16");
        Edge.saves(Edge.from("pool 0 4;net 0 6;"), 0, x -> x.resize(0, 5));
        Edge.saves(Edge.from("pool 0 4;net 0 6;"), 0, x -> x.resize(0, 16));

        Edge.says(15, "Returns the beginning of the current block then;");
        Edge.saves(Edge.from("pool 61440 4;policy 3;net 0 16;"), 63488, x -> x.resize(0, 5));
        Edge.saves(Edge.from("pool 65532 14;policy 3;net 0 15;"), 65534, x -> x.resize(0, 16));

        Edge.says(15, "INVALID_ARGUMENT if an argument is out of range;");
        for (int network : Edge.outside(0, 11)) {
            Edge.refused(Edge.NEW, -1, x -> x.resize(network, 12));
            Edge.refused(FULL, -1, x -> x.resize(network, 15));
        }
        for (int length : Edge.outside(5, 16)) {
            // The length 4 would be possible in this pool; network 1 has no block.
            Edge.refused(Edge.from("pool 0 4;net 0 6;"), -1, x -> x.resize(0, length));
            Edge.refused(Edge.from("pool 0 4;net 0 6;"), -1, x -> x.resize(1, length));
        }
    }

    private static void promise15Refused() {
        Edge.says(15, "ILLEGAL_STATE if the network has no block, the length is the same, the greater block is not possible");
        Edge.refused(Edge.NEW, -2, x -> x.resize(0, 12));
        Edge.refused(FULL, -2, x -> x.resize(3, 16));
        Edge.refused(FULL, -2, x -> x.resize(11, 5));
        Edge.refused(FULL, -2, x -> x.resize(0, 13));
        Edge.refused(FULL, -2, x -> x.resize(1, 14));
        Edge.refused(Edge.from("pool 0 4;net 0 5;"), -2, x -> x.resize(0, 5));
        Edge.refused(Edge.from("pool 0 4;net 0 16;"), -2, x -> x.resize(0, 16));
        Edge.refused(FULL, -2, x -> x.resize(0, 12));
        Edge.refused(FULL, -2, x -> x.resize(2, 5));
    }

    /** Leases the addresses of a block in turn and keeps only that of one host. */
    private static Edge.Steps leased(String setUp, int host, int hosts) {
        return Edge.busy(setUp, x -> {
            for (int some = 0; some < hosts; some++) {
                x.addHost(some, 0, 0);
                x.request(some);
            }
            for (int some = 0; some < hosts; some++) {
                if (some != host) {
                    x.removeHost(some);
                }
            }
            return x.host(host, 2);
        });
    }

    private static void promise15Leases() {
        Edge.says(15, "or a new lease has an address that would not be in the block or could not be leased there.");
        String eight = "pool 0 11;net 0 13;";
        // Addresses 1 to 6 of 0..7. Of 0..3 only 1 and 2 can be leased, of 0..1 both, of 0 one.
        for (int host = 0; host < 6; host++) {
            int address = host + 1;
            Edge.Steps one = leased(eight, host, 6);
            Edge.asked(one, address, x -> x.host(address - 1, 2));
            check(one, address == 1 || address == 2, 0, 14);
            check(one, address == 1, 0, 15);
            check(one, false, 0, 16);
            check(one, true, 0, 12);
        }
        // Both addresses of 0..1: in 0..3 the first one cannot be leased, nor in 0..7; of 0 only the first one is left.
        for (int host = 0; host < 2; host++) {
            Edge.Steps one = leased("pool 0 11;net 0 15;", host, 2);
            check(one, host == 1, 0, 14);
            check(one, host == 1, 0, 13);
            check(one, host == 0, 0, 16);
        }
        // The upper half: of 2..3 the last one cannot be leased in 0..3, but both in 0..7.
        for (int host = 0; host < 2; host++) {
            Edge.Steps one = leased("pool 0 14;policy 3;net 0 15;", host, 2);
            check(one, host == 0, 0, 14);
        }
        Edge.Steps upper = Edge.from("pool 0 13;net 1 15;net 0 15;host 0 0;host 1 0;", x -> x.release(1),
                x -> x.request(0), x -> x.request(1));
        check(upper, true, 0, 13);
        check(upper, false, 0, 14);
        // A single address becomes the first or the last one of two, of which all can be leased, or of four.
        check(leased("pool 0 14;net 0 16;", 0, 1), true, 0, 15);
        check(leased("pool 0 14;net 0 16;", 0, 1), false, 0, 14);
        check(leased("pool 0 14;policy 3;net 0 16;", 0, 1), true, 2, 15);
        check(leased("pool 0 14;policy 3;net 0 16;", 0, 1), false, 0, 14);
        // Old leases and the leases of other networks do not matter.
        check(OVERLAP, true, 4, 16);
        check(Edge.from("pool 0 12;net 1 14;net 0 14;host 0 1;", x -> x.request(0)), true, 4, 16);
        // The lease of a host that has an old one too.
        Edge.Steps both = Edge.from("pool 0 12;net 0 14;host 0 0;", x -> x.request(0), x -> x.renumber(0, 14),
                x -> x.request(0));
        check(both, true, 4, 15);
        check(both, false, 4, 16);
    }

    private static void check(Edge.Steps before, boolean possible, int beginning, int length) {
        if (possible) {
            Edge.saves(before, beginning, x -> x.resize(0, length));
        } else {
            Edge.refused(before, -2, x -> x.resize(0, length));
        }
    }

    private static void promise16() {
        Edge.says(16, "Renumbers a network.");
        Edge.saves(Edge.busy("pool 0 12;net 0 14;host 0 0;host 1 0;", x -> x.request(0)), 4, x -> x.renumber(0, 14));
        PoolRenumberer x = new PoolRenumberer();
        Edge.from("pool 0 12;net 0 14;host 0 0;host 1 0;", y -> y.request(0), y -> y.pass(7)).on(x);
        Edge.is(x.renumber(0, 13), 8);
        int[] network = {8, 13, 0, 14, 107, 2};
        int[] host = {0, 0, -9, -9, 1, 60};
        for (int what = 0; what <= 5; what++) {
            Edge.is(x.network(0, what), network[what]);
            Edge.is(x.host(0, what), host[what]);
        }

        Edge.says(16, "`network`: 0 to 11");
        Edge.saves(Edge.from("pool 0 12;net 0 14;net 11 14;"), 8, y -> y.renumber(0, 14));
        Edge.saves(Edge.from("pool 0 12;net 0 14;net 11 14;"), 8, y -> y.renumber(11, 14));

        Edge.says(16, "`length`: 5 to 16");
        for (int length = 5; length <= 16; length++) {
            int some = length;
            Edge.saves(Edge.from("pool 0 4;pool 61440 4;net 0 5;net 1 6;net 2 7;net 3 8;net 4 9;net 5 9;"), 61440,
                    y -> y.renumber(0, some));
        }

        Edge.says(16, "Returns the beginning of the new current block;");
        Edge.saves(Edge.from("pool 65532 14;policy 3;net 0 16;", y -> y.setPolicy(0)), 65532, y -> y.renumber(0, 16));
        Edge.saves(Edge.from("pool 65532 14;net 0 15;policy 3;"), 65535, y -> y.renumber(0, 16));
        Edge.saves(Edge.from("pool 0 14;policy 3;net 0 16;", y -> y.setPolicy(0)), 0, y -> y.renumber(0, 16));
    }

    private static void promise16Refused() {
        Edge.says(16, "INVALID_ARGUMENT if an argument is out of range;");
        for (int network : Edge.outside(0, 11)) {
            Edge.refused(Edge.NEW, -1, x -> x.renumber(network, 12));
            Edge.refused(FULL, -1, x -> x.renumber(network, 16));
        }
        for (int length : Edge.outside(5, 16)) {
            // The length 4 could be placed; network 0 has an old block or no block, or there is no room.
            Edge.refused(Edge.from("pool 0 4;pool 4096 4;net 0 5;"), -1, x -> x.renumber(0, length));
            Edge.refused(OVERLAP, -1, x -> x.renumber(0, length));
            Edge.refused(FULL, -1, x -> x.renumber(3, length));
            Edge.refused(FULL, -1, x -> x.renumber(0, length));
        }

        Edge.says(16, "ILLEGAL_STATE if the network has no block, or an old one;");
        Edge.refused(Edge.NEW, -2, x -> x.renumber(0, 16));
        Edge.refused(OVERLAP, -2, x -> x.renumber(11, 16));
        Edge.refused(OVERLAP, -2, x -> x.renumber(0, 14));
        // There is no room either.
        Edge.refused(FULL, -2, x -> x.renumber(3, 16));
        Edge.refused(OVERLAP, -2, x -> x.renumber(0, 5));
        Edge.refused(Edge.from("pool 0 12;net 0 14;", x -> x.renumber(0, 14), x -> x.pass(99)), -2, x -> x.renumber(0, 14));
        Edge.saves(Edge.from("pool 0 12;net 0 14;", x -> x.renumber(0, 14), x -> x.pass(100)), 0, x -> x.renumber(0, 14));
        Edge.saves(Edge.from("pool 0 12;net 0 14;", x -> x.setTimes(60, 0), x -> x.renumber(0, 14)), 0,
                x -> x.renumber(0, 14));

        Edge.says(16, "CAPACITY_EXCEEDED if the block cannot be placed.");
        Edge.refused(FULL, -3, x -> x.renumber(0, 16));
        Edge.refused(Edge.from("pool 0 14;net 0 14;"), -3, x -> x.renumber(0, 16));
        Edge.refused(Edge.from("pool 0 14;net 0 15;"), -3, x -> x.renumber(0, 14));
        Edge.saves(Edge.from("pool 0 14;net 0 15;"), 2, x -> x.renumber(0, 15));
        Edge.refused(Edge.from("pool 0 14;net 0 16;", x -> x.setTimes(60, 0)), -3, x -> x.renumber(0, 14));
        Edge.refused(Edge.from("pool 0 6;net 0 16;"), -3, x -> x.renumber(0, 5));
    }

    private static void promise17() {
        Edge.says(17, "Starts a wave of renumbering:");
        Edge.Steps three = Edge.busy("pool 0 11;net 9 12;net 0 14;net 11 14;net 5 14;host 0 5;host 1 0;",
                x -> x.request(0), x -> x.release(9));
        // Networks 0, 11 and 5 begin at 16, 20 and 24; free are 0 to 15 and 28 to 31.
        Edge.saves(three, 3, x -> x.wave(12));
        PoolRenumberer x = new PoolRenumberer();
        three.on(x);
        Edge.is(x.wave(12), 3);
        int[] five = {0, 14, 24, 14, 100, 1};
        for (int what = 0; what <= 5; what++) {
            Edge.is(x.network(5, what), five[what]);
        }
        Edge.is(x.network(11, 0), 4);
        Edge.is(x.network(0, 0), 8);
        Edge.is(x.host(0, 2), -9);
        Edge.is(x.host(0, 4), 25);
        Edge.is(x.count(3), 3);

        Edge.says(17, "`count`: 1 to 12");
        Edge.saves(three, 1, y -> y.wave(1));
        Edge.saves(three, 3, y -> y.wave(12));

        Edge.says(17, "Returns how many were renumbered;");
        for (int count = 1; count <= 12; count++) {
            int some = count;
            Edge.saves(three, Math.min(count, 3), y -> y.wave(some));
        }
        // All 12 networks: the addresses 31 down to 20 go to 0 up to 11.
        x = new PoolRenumberer();
        Edge.from("pool 0 11;policy 3;").on(x);
        for (int network = 0; network < 12; network++) {
            Edge.is(x.assign(network, 16), 31 - network);
        }
        x.setPolicy(0);
        Edge.is(x.wave(12), 12);
        for (int network = 0; network < 12; network++) {
            Edge.is(x.network(network, 0), network);
            Edge.is(x.network(network, 2), 31 - network);
        }
        Edge.is(x.wave(1), -2);
    }

    private static void promise17Order() {
        Edge.says(17, "the networks that have a current block and no old one are gone through by descending beginnings of their "
                + "current blocks (as they are at the beginning of the call), until a number of them has been renumbered.");
        Edge.Steps three = Edge.from("pool 0 11;net 9 12;net 0 14;net 11 14;net 5 14;", x -> x.release(9));
        int[][] begins = {{16, 20, 0}, {16, 4, 0}, {8, 4, 0}};
        for (int count = 1; count <= 3; count++) {
            PoolRenumberer x = new PoolRenumberer();
            three.on(x);
            Edge.is(x.wave(count), count);
            Edge.is(x.network(0, 0), begins[count - 1][0]);
            Edge.is(x.network(11, 0), begins[count - 1][1]);
            Edge.is(x.network(5, 0), begins[count - 1][2]);
        }
        // Network 5 has an old block, so it is passed over, and does not count.
        PoolRenumberer x = new PoolRenumberer();
        three.on(x);
        x.renumber(5, 16);
        Edge.is(x.wave(1), 1);
        Edge.is(x.network(5, 0), 0);
        Edge.is(x.network(11, 0), 4);
        // Without an overlap a network that went down is not gone through again.
        x = new PoolRenumberer();
        three.on(x);
        x.setTimes(60, 0);
        Edge.is(x.wave(12), 3);
        Edge.is(x.network(5, 0), 0);
        Edge.is(x.network(0, 0), 8);
        Edge.is(x.wave(12), -2);

        Edge.says(17, "A network is renumbered, with the same length, if the placed block would have a smaller beginning than its "
                + "current one.");
        // Network 2 (24..31) fits nowhere below, so it does not count; network 1 (20..23) goes to 0.
        Edge.Steps skip = Edge.from("pool 0 11;net 9 14;net 0 14;net 8 13;net 7 14;net 1 14;net 2 13;", y -> y.release(9));
        x = new PoolRenumberer();
        skip.on(x);
        Edge.is(x.network(1, 0), 20);
        Edge.is(x.wave(1), 1);
        Edge.is(x.network(2, 2), -9);
        Edge.is(x.network(1, 0), 0);
        Edge.is(x.network(1, 1), 14);
        Edge.is(x.network(1, 3), 14);
        // By worst the blocks that were given up at once draw the next one up, by an overlap they do not.
        Edge.Steps worst = Edge.from("pool 0 11;net 9 12;net 0 14;net 1 14;net 2 13;policy 2;", y -> y.release(9));
        Edge.saves(worst, 3, y -> y.wave(12));
        x = new PoolRenumberer();
        worst.on(x);
        x.setTimes(60, 0);
        Edge.is(x.wave(12), 2);
        Edge.is(x.network(2, 0), 0);
        Edge.is(x.network(1, 0), 8);
        Edge.is(x.network(0, 0), 16);
    }

    private static void promise17Refused() {
        Edge.says(17, "INVALID_ARGUMENT if count is out of range;");
        for (int count : Edge.outside(1, 12)) {
            Edge.refused(Edge.NEW, -1, x -> x.wave(count));
            Edge.refused(Edge.busy("pool 0 12;net 0 14;net 1 14;", x -> x.release(0)), -1, x -> x.wave(count));
        }

        Edge.says(17, "ILLEGAL_STATE if none is.");
        for (int count : new int[] {1, 12}) {
            Edge.refused(Edge.NEW, -2, x -> x.wave(count));
            Edge.refused(Edge.from("pool 0 12;"), -2, x -> x.wave(count));
            Edge.refused(FULL, -2, x -> x.wave(count));
            Edge.refused(OVERLAP, -2, x -> x.wave(count));
            Edge.refused(Edge.busy("pool 0 12;net 0 14;net 1 14;net 2 14;"), -2, x -> x.wave(count));
            Edge.refused(Edge.busy("pool 0 12;net 0 13;net 1 14;", x -> x.release(0), x -> x.setPolicy(3)), -2,
                    x -> x.wave(count));
            // A free block below that is too small.
            Edge.refused(Edge.busy("pool 0 12;net 0 14;net 1 14;net 2 13;", x -> x.release(0), x -> x.assign(0, 15)), -2,
                    x -> x.wave(count));
        }
    }

    private static void promise18() {
        Edge.says(18, "Returns a property of a network.");
        Edge.Steps both = Edge.busy("pool 65528 13;policy 3;net 11 14;host 0 11;host 9 11;", x -> x.pass(7),
                x -> x.setPolicy(0), x -> x.renumber(11, 15));
        int[] want = {65528, 15, 65532, 14, 107, 2};
        for (int what = 0; what <= 5; what++) {
            int part = what;
            Edge.asked(both, want[what], x -> x.network(11, part));
        }

        Edge.says(18, "`network`: 0 to 11");
        Edge.asked(Edge.from("pool 0 12;net 0 14;net 11 14;"), 0, x -> x.network(0, 0));
        Edge.asked(Edge.from("pool 0 12;net 0 14;net 11 14;"), 4, x -> x.network(11, 0));

        Edge.says(18, "`what`: 0 the beginning of its current block, 1 its length, 2 the beginning of its old block, 3 its length, "
                + "4 the time at which the overlap ends, 5 the number of its hosts");
        int[] current = {0, 14, -9, -9, -9, 0};
        for (int what = 0; what <= 5; what++) {
            int part = what;
            Edge.asked(Edge.from("pool 0 12;net 0 14;"), current[what], x -> x.network(0, part));
        }
        int[] old = {4, 14, 0, 14, 100, 1};
        for (int what = 0; what <= 5; what++) {
            int part = what;
            Edge.asked(OVERLAP, old[what], x -> x.network(0, part));
        }
        PoolRenumberer x = new PoolRenumberer();
        Edge.from("pool 0 12;net 0 14;").on(x);
        for (int host = 0; host <= 15; host++) {
            x.addHost(host, 0, 0);
            Edge.is(x.network(0, 5), host + 1);
        }
        // The latest end of an overlap.
        x = new PoolRenumberer();
        for (int turn = 0; turn < 9; turn++) {
            x.pass(1000);
        }
        x.pass(999);
        x.addPool(0, 12);
        x.assign(0, 14);
        x.setTimes(500, 500);
        x.renumber(0, 14);
        Edge.is(x.network(0, 4), 10499);

        Edge.says(18, "Returns the property;");
        Edge.asked(both, 65528, y -> y.network(11, 0));

        Edge.says(18, "INVALID_ARGUMENT if an argument is out of range;");
        for (int network : Edge.outside(0, 11)) {
            Edge.refused(Edge.NEW, -1, y -> y.network(network, 0));
            Edge.refused(OVERLAP, -1, y -> y.network(network, 5));
        }
        for (int what : Edge.outside(0, 5)) {
            Edge.refused(Edge.NEW, -1, y -> y.network(0, what));
            Edge.refused(OVERLAP, -1, y -> y.network(0, what));
            Edge.refused(OVERLAP, -1, y -> y.network(1, what));
        }

        Edge.says(18, "NONE for 0 and 1 without a current block, and for 2 to 4 without an old one.");
        Edge.Steps given = Edge.from("pool 0 12;net 0 14;host 0 0;", y -> y.renumber(0, 14), y -> y.pass(100));
        for (int what = 0; what <= 5; what++) {
            int part = what;
            Edge.asked(Edge.NEW, what == 5 ? 0 : -9, y -> y.network(0, part));
            Edge.asked(OVERLAP, what == 5 ? 0 : -9, y -> y.network(11, part));
            Edge.asked(given, new int[] {4, 14, -9, -9, -9, 1}[what], y -> y.network(0, part));
            Edge.asked(Edge.from("pool 0 12;net 0 14;host 0 0;", y -> y.renumber(0, 14), y -> y.release(0)),
                    what == 5 ? 0 : -9, y -> y.network(0, part));
        }
    }

    private static void promise19() {
        Edge.says(19, "Returns the network of which a block contains an address.");
        Edge.Steps both = Edge.busy("pool 65528 13;policy 3;net 11 14;net 0 16;", x -> x.renumber(11, 15));
        // Network 11: 65532 to 65535 (old) and 65528 to 65529; network 0: 65531.
        int[] owners = {11, 11, -9, 0, 11, 11, 11, 11};
        for (int at = 0; at < 8; at++) {
            int address = 65528 + at;
            Edge.asked(both, owners[at], x -> x.owner(address));
        }
        Edge.asked(both, -9, x -> x.owner(65527));

        Edge.says(19, "`address`: 0 to 65535");
        Edge.asked(Edge.from("pool 0 14;net 3 16;"), 3, x -> x.owner(0));
        Edge.asked(Edge.from("pool 65532 14;policy 3;net 3 16;"), 3, x -> x.owner(65535));

        Edge.says(19, "Returns the network;");
        Edge.asked(Edge.from("pool 0 14;net 0 16;"), 0, x -> x.owner(0));
        Edge.asked(Edge.from("pool 0 14;net 11 16;"), 11, x -> x.owner(0));

        Edge.says(19, "INVALID_ARGUMENT if address is out of range;");
        for (int address : Edge.outside(0, 65535)) {
            Edge.refused(Edge.NEW, -1, x -> x.owner(address));
            Edge.refused(both, -1, x -> x.owner(address));
        }

        Edge.says(19, "NONE if there is none.");
        for (int address : new int[] {0, 1, 65534, 65535}) {
            Edge.asked(Edge.NEW, -9, x -> x.owner(address));
            Edge.asked(Edge.from("pool 0 14;pool 65532 14;"), -9, x -> x.owner(address));
        }
        PoolRenumberer x = new PoolRenumberer();
        both.on(x);
        x.pass(99);
        Edge.is(x.owner(65535), 11);
        x.pass(1);
        Edge.is(x.owner(65535), -9);
        x.release(11);
        Edge.is(x.owner(65528), -9);
    }
}
