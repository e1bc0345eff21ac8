/** The edges that the section "Terms" names, but for the set-up text. */
final class TermEdges {
    private static final Edge.Steps FOUR = Edge.busy("pool 64 10;pool 0 11;pool 128 12;pool 256 14;");

    private TermEdges() {
    }

    static void lookAtAll() {
        addresses();
        pools();
        freeBlocks();
        networks();
        placing();
        policies();
        cannotBePlaced();
        hosts();
        leases();
        timePasses();
        overlapsEnd();
        renumbering();
        saving();
        sevenStates();
        errorCodes();
        constants();
    }

    private static void addresses() {
        Edge.says(0, "Addresses are the numbers 0 to 65535.");
        Edge.Steps ends = Edge.busy("pool 0 14;net 0 16;pool 65532 14;net 1 14;");
        Edge.asked(ends, 0, x -> x.owner(0));
        Edge.asked(ends, 1, x -> x.owner(65535));
        Edge.asked(ends, -9, x -> x.leaseOf(0));
        Edge.asked(ends, -9, x -> x.leaseOf(65535));
        for (int address : Edge.outside(0, 65535)) {
            Edge.refused(ends, -1, x -> x.owner(address));
            Edge.refused(ends, -1, x -> x.leaseOf(address));
        }

        Edge.says(0, "A block has a length n, 0 to 16, and a beginning, which is a multiple of its size 2 to the power of (16 - n);");
        for (int length = 0; length <= 16; length++) {
            int some = length;
            Edge.asked(Edge.NEW, 0, x -> x.freeBlocks(some));
        }
        Edge.refused(Edge.NEW, -1, x -> x.freeBlocks(-1));
        Edge.refused(Edge.NEW, -1, x -> x.freeBlocks(17));
        Edge.saves(Edge.NEW, 0, x -> x.addPool(65532, 14));
        for (int beginning : new int[] {1, 2, 3, 65533, 65534, 65535}) {
            Edge.refused(Edge.NEW, -1, x -> x.addPool(beginning, 14));
        }

        Edge.says(0, "it consists of as many addresses as its size, from its beginning on.");
        for (int length = 5; length <= 16; length++) {
            int size = 1 << (16 - length);
            PoolRenumberer x = new PoolRenumberer();
            x.addPool(4096, 4);
            x.assign(3, length);
            Edge.is(x.count(7), 4096 - size);
            Edge.is(x.owner(4095), -9);
            Edge.is(x.owner(4096), 3);
            Edge.is(x.owner(4095 + size), 3);
            Edge.is(x.owner(4096 + size), -9);
        }

        Edge.says(0, "Two blocks either have no address in common, or one of them contains the other one.");
        Edge.refused(Edge.from("pool 64 10;"), -2, x -> x.addPool(0, 9));
        Edge.refused(Edge.from("pool 0 9;"), -2, x -> x.addPool(64, 10));
        Edge.saves(Edge.from("pool 64 10;"), 1, x -> x.addPool(0, 10));

        Edge.says(0, "A greater length means a smaller block.");
        for (int length = 4; length <= 14; length++) {
            PoolRenumberer x = new PoolRenumberer();
            x.addPool(0, length);
            Edge.is(x.pool(0, 2), 65536 >> length);
        }
    }

    private static void pools() {
        Edge.says(0, "There are at most 4 pools, numbered from 0 in the order in which they were added.");
        int[] begins = {64, 0, 128, 256};
        for (int pool = 0; pool <= 3; pool++) {
            int number = pool;
            Edge.asked(FOUR, begins[pool], x -> x.pool(number, 0));
        }
        Edge.refused(FOUR, -1, x -> x.pool(4, 0));
        Edge.refused(FOUR, -3, x -> x.addPool(512, 14));

        Edge.says(0, "A pool is a block with a length from 4 to 14;");
        Edge.saves(Edge.NEW, 0, x -> x.addPool(0, 4));
        Edge.saves(Edge.NEW, 0, x -> x.addPool(0, 14));
        Edge.refused(Edge.NEW, -1, x -> x.addPool(0, 3));
        Edge.refused(Edge.NEW, -1, x -> x.addPool(0, 15));

        Edge.says(0, "no two pools have an address in common.");
        for (int beginning : begins) {
            Edge.refused(FOUR, -2, x -> x.addPool(beginning, 14));
        }
    }

    private static void freeBlocks() {
        Edge.says(0, "An address of a pool is assigned if a block of a network contains it (see below), and free otherwise.");
        String one = "pool 0 12;net 0 14;";
        Edge.asked(Edge.from("pool 0 12;"), 16, x -> x.count(7));
        Edge.asked(Edge.from(one), 12, x -> x.count(7));
        Edge.asked(Edge.from(one, x -> x.renumber(0, 15)), 10, x -> x.count(7));
        Edge.asked(Edge.from(one, x -> x.renumber(0, 15), x -> x.pass(100)), 14, x -> x.count(7));
        Edge.asked(Edge.from(one, x -> x.renumber(0, 15), x -> x.release(0)), 16, x -> x.count(7));

        Edge.says(0, "The free blocks of a pool are the blocks within it that contain only free addresses and are not contained in a "
                + "greater such block within the pool.");
        // The first and the last address of 16 are assigned: 1, 2-3, 4-7 and 8-11, 12-13, 14.
        PoolRenumberer x = new PoolRenumberer();
        x.addPool(0, 12);
        Edge.is(x.pool(0, 3), 1);
        x.assign(0, 16);
        Edge.is(x.pool(0, 3), 4);
        // Policy 3 takes the smallest one, so the small ones are filled until the last address is taken.
        for (int network = 1; network <= 3; network++) {
            x.assign(network, 17 - network);
        }
        Edge.is(x.pool(0, 3), 1);
        x.setPolicy(3);
        Edge.is(x.assign(5, 16), 15);
        for (int network = 1; network <= 3; network++) {
            x.release(network);
        }
        for (int length = 14; length <= 16; length++) {
            Edge.is(x.freeBlocks(length), 2);
        }
        Edge.is(x.pool(0, 3), 6);
        Edge.is(x.freeBlocks(13), 0);

        Edge.says(0, "(So two buddies that are both free are one block.)");
        Edge.asked(Edge.from("pool 0 14;net 0 16;net 1 16;", y -> y.release(0)), 1, y -> y.freeBlocks(16));
        Edge.asked(Edge.from("pool 0 14;net 0 16;net 1 16;", y -> y.release(0), y -> y.release(1)), 0, y -> y.freeBlocks(16));
        Edge.asked(Edge.from("pool 0 14;net 0 16;net 1 16;", y -> y.release(0), y -> y.release(1)), 1, y -> y.freeBlocks(14));
        // 1 and 2 are both free, but no buddies.
        Edge.asked(Edge.from("pool 0 14;net 0 16;net 1 16;net 2 16;net 3 16;", y -> y.release(1), y -> y.release(2)), 2,
                y -> y.freeBlocks(16));
        // Buddies in two pools stay two.
        Edge.asked(Edge.from("pool 0 14;pool 4 14;"), 2, y -> y.freeBlocks(14));
        Edge.asked(Edge.from("pool 0 14;pool 4 14;"), 0, y -> y.freeBlocks(13));
    }

    private static void networks() {
        Edge.says(0, "There are the networks 0 to 11.");
        PoolRenumberer x = new PoolRenumberer();
        x.addPool(0, 12);
        for (int network = 0; network <= 11; network++) {
            Edge.is(x.assign(network, 16), network);
        }
        Edge.is(x.assign(12, 16), -1);
        Edge.is(x.assign(-1, 16), -1);

        Edge.says(0, "A network has no block, or a current block, and perhaps also an old block with a time at which its overlap ends.");
        x = new PoolRenumberer();
        x.addPool(0, 12);
        int[][] want = {{-9, -9, -9, -9, -9}, {0, 14, -9, -9, -9}, {4, 15, 0, 14, 100}, {4, 15, -9, -9, -9}};
        for (int stage = 0; stage <= 3; stage++) {
            for (int what = 0; what <= 4; what++) {
                Edge.is(x.network(0, what), want[stage][what]);
            }
            int answer = stage == 0 ? x.assign(0, 14) : stage == 1 ? x.renumber(0, 15) : x.pass(100);
            Edge.is(answer < 0 ? answer : 0, 0);
        }

        Edge.says(0, "All these blocks lie within pools, and no two of them have an address in common.");
        Edge.refused(Edge.from("pool 0 14;pool 4 14;net 0 14;"), -2, y -> y.resize(0, 13));
        Edge.refused(Edge.from("pool 0 14;net 0 15;net 1 15;"), -2, y -> y.resize(0, 14));
        Edge.refused(Edge.from("pool 0 14;net 0 15;", y -> y.renumber(0, 15)), -2, y -> y.resize(0, 14));
        Edge.refused(Edge.from("pool 0 14;net 0 16;"), -2, y -> y.removePool(0));

        Edge.says(0, "At first no network has a block.");
        for (int network = 0; network <= 11; network++) {
            int some = network;
            Edge.asked(Edge.NEW, -9, y -> y.network(some, 0));
            Edge.asked(Edge.NEW, -9, y -> y.network(some, 2));
        }
    }

    private static void placing() {
        Edge.says(0, "among the free blocks of all pools that have at least its size, one is chosen by the policy, and the block with "
                + "the length n at the beginning of it is taken (with policy 3: at the end of it).");
        // A free block of just the size, of the next greater one, and of a far greater one.
        for (int length = 14; length <= 16; length++) {
            for (int policy = 0; policy <= 3; policy++) {
                PoolRenumberer x = new PoolRenumberer();
                x.addPool(65532, 14);
                x.setPolicy(policy);
                Edge.is(x.assign(0, length), policy == 3 ? 65536 - (1 << (16 - length)) : 65532);
            }
        }
        // A block that is just too small is passed over, though the policy would like it: first and smallest, or last.
        for (int policy = 0; policy <= 3; policy++) {
            PoolRenumberer x = new PoolRenumberer();
            Edge.from("pool 0 14;pool 64 13;pool 128 14;").on(x);
            x.setPolicy(policy);
            Edge.is(x.assign(0, 13), 64);
        }
    }

    /**
     * Free are 80 to 95 (pool 0, length 12), 0 to 7 and 16 to 31 (pool 1, lengths 13 and 12), 40 to 47 and 64 to 71
     * (pools 2 and 3, length 13): several of the smallest and of the greatest, and the pools are not in order.
     */
    private static Edge.Steps holes(int policy) {
        return Edge.from("pool 80 12;pool 0 11;pool 40 13;pool 64 13;net 0 13;net 1 13;", x -> x.release(0),
                x -> x.setPolicy(policy));
    }

    private static void policies() {
        Edge.says(0, "The policy is 0 first: the one with the smallest beginning (at first);");
        Edge.saves(holes(0), 0, x -> x.assign(5, 14));
        Edge.saves(holes(0), 16, x -> x.assign(5, 12));
        Edge.saves(Edge.from("pool 64 14;pool 0 14;"), 0, x -> x.assign(5, 16));

        Edge.says(0, "1 best: the smallest one, of several the one with the smallest beginning;");
        Edge.saves(holes(1), 0, x -> x.assign(5, 14));
        Edge.saves(holes(1), 16, x -> x.assign(5, 12));
        Edge.saves(Edge.from("pool 0 12;pool 64 13;pool 32 14;policy 1;"), 32, x -> x.assign(5, 16));
        Edge.saves(Edge.from("pool 0 12;pool 64 14;pool 32 14;policy 1;"), 32, x -> x.assign(5, 16));
        Edge.saves(Edge.from("pool 0 12;pool 32 14;pool 64 14;policy 1;"), 32, x -> x.assign(5, 16));

        Edge.says(0, "2 worst: the greatest one, of several the one with the smallest beginning;");
        Edge.saves(holes(2), 16, x -> x.assign(5, 14));
        Edge.saves(holes(2), 16, x -> x.assign(5, 12));
        Edge.saves(Edge.from("pool 0 14;pool 64 12;pool 32 12;policy 2;"), 32, x -> x.assign(5, 16));
        Edge.saves(Edge.from("pool 0 14;pool 32 12;pool 64 12;policy 2;"), 32, x -> x.assign(5, 16));
        Edge.saves(Edge.from("pool 0 14;pool 64 12;pool 32 13;policy 2;"), 64, x -> x.assign(5, 16));

        Edge.says(0, "3 top: the smallest one, of several the one with the greatest beginning.");
        Edge.saves(holes(3), 68, x -> x.assign(5, 14));
        Edge.saves(holes(3), 80, x -> x.assign(5, 12));
        Edge.saves(Edge.from("pool 0 14;pool 64 12;pool 32 14;policy 3;"), 35, x -> x.assign(5, 16));
        Edge.saves(Edge.from("pool 32 14;pool 64 12;pool 0 14;policy 3;"), 35, x -> x.assign(5, 16));
    }

    private static void cannotBePlaced() {
        Edge.says(0, "If there is no such free block, the block cannot be placed.");
        for (int policy = 0; policy <= 3; policy++) {
            int some = policy;
            Edge.Steps none = x -> x.setPolicy(some);
            Edge.refused(none, -3, x -> x.assign(0, 16));
            Edge.Steps full = Edge.from("pool 0 14;net 0 14;", x -> x.setPolicy(some));
            Edge.refused(full, -3, x -> x.assign(1, 16));
            Edge.refused(full, -3, x -> x.renumber(0, 16));
            Edge.asked(full, -9, x -> x.fragmentationAfter(0));
            Edge.refused(full, -2, x -> x.wave(1));
            // 12 addresses are free, but no 8 of them are a block.
            Edge.Steps parts = Edge.from("pool 0 14;pool 8 14;pool 4 14;", x -> x.setPolicy(some));
            Edge.refused(parts, -3, x -> x.assign(0, 13));
            Edge.saves(parts, new int[] {0, 0, 0, 8}[policy], x -> x.assign(0, 14));
        }
    }

    private static void hosts() {
        Edge.says(0, "The time is 0 at first.");
        Edge.asked(Edge.NEW, 0, x -> x.count(0));

        Edge.says(0, "There are the hosts 0 to 15.");
        PoolRenumberer x = new PoolRenumberer();
        Edge.from("pool 0 12;net 0 14;").on(x);
        for (int host = 0; host <= 15; host++) {
            Edge.is(x.addHost(host, 0, 0), host + 1);
        }
        Edge.is(x.addHost(16, 0, 0), -1);
        Edge.is(x.addHost(-1, 0, 0), -1);

        Edge.says(0, "A host belongs to no network (at first) or to one, and is sticky or not.");
        for (int host = 0; host <= 15; host++) {
            int some = host;
            Edge.asked(Edge.NEW, -9, y -> y.host(some, 0));
            Edge.asked(Edge.NEW, -9, y -> y.host(some, 1));
        }
        Edge.refused(Edge.from("pool 0 12;net 0 14;net 1 14;host 0 0;"), -2, y -> y.addHost(0, 1, 0));
        Edge.asked(Edge.from("pool 0 12;net 0 14;host 0 0;"), 0, y -> y.host(0, 1));
        Edge.asked(Edge.from("pool 0 12;net 0 14;host 0 0 sticky;"), 1, y -> y.host(0, 1));
    }

    private static void leases() {
        String two = "pool 0 12;net 0 14;net 1 14;host 0 0;host 1 0;host 2 0;";
        Edge.says(0, "A lease is an address together with the time until which it is valid.");
        Edge.asked(Edge.from(two, x -> x.request(0)), 1, x -> x.host(0, 2));
        Edge.asked(Edge.from(two, x -> x.request(0)), 60, x -> x.host(0, 3));

        Edge.says(0, "A host has at most one lease in the current block of its network (its new lease) and at most one in the old "
                + "block (its old lease).");
        Edge.asked(Edge.from(two, x -> x.request(0), x -> x.request(0)), 1, x -> x.count(5));
        Edge.asked(Edge.from(two, x -> x.request(0), x -> x.renumber(0, 14), x -> x.request(0), x -> x.request(0)), 2,
                x -> x.count(5));

        Edge.says(0, "No two leases have the same address.");
        PoolRenumberer x = new PoolRenumberer();
        Edge.from(two, y -> y.request(0), y -> y.request(1), y -> y.renumber(0, 14), y -> y.request(2)).on(x);
        Edge.is(x.host(2, 2), 9);
        Edge.is(x.request(0), 10);
        Edge.is(x.request(1), -3);

        Edge.says(0, "The lease time is 1 to 500 (at first 60), the overlap time is 0 to 500 (at first 100).");
        Edge.saves(Edge.NEW, 0, y -> y.setTimes(60, 100));
        Edge.saves(Edge.NEW, 1, y -> y.setTimes(1, 0));
        Edge.saves(Edge.NEW, 1, y -> y.setTimes(500, 500));
        Edge.refused(Edge.NEW, -1, y -> y.setTimes(0, 100));
        Edge.refused(Edge.NEW, -1, y -> y.setTimes(501, 100));
        Edge.refused(Edge.NEW, -1, y -> y.setTimes(60, -1));
        Edge.refused(Edge.NEW, -1, y -> y.setTimes(60, 501));
        Edge.asked(Edge.from(two, y -> y.renumber(0, 14)), 100, y -> y.network(0, 4));

        Edge.says(0, "The addresses of a block that can be leased are all of them if its size is less than 4;");
        Edge.saves(Edge.from("pool 0 12;net 0 16;host 0 0;"), 0, y -> y.request(0));
        Edge.refused(Edge.from("pool 0 12;net 0 16;host 0 0;host 1 0;", y -> y.request(0)), -3, y -> y.request(1));
        Edge.saves(Edge.from("pool 0 12;net 0 15;host 0 0;"), 0, y -> y.request(0));
        Edge.saves(Edge.from("pool 0 12;net 0 15;host 0 0;host 1 0;", y -> y.request(0)), 1, y -> y.request(1));

        Edge.says(0, "otherwise all but the first and the last one.");
        Edge.saves(Edge.from(two), 1, y -> y.request(0));
        Edge.saves(Edge.from(two, y -> y.request(0)), 2, y -> y.request(1));
        Edge.refused(Edge.from(two, y -> y.request(0), y -> y.request(1)), -3, y -> y.request(2));
        // 14 of 16 addresses.
        x = new PoolRenumberer();
        Edge.from("pool 65520 12;net 0 12;").on(x);
        for (int host = 0; host <= 15; host++) {
            x.addHost(host, 0, 0);
            Edge.is(x.request(host), host < 14 ? 65521 + host : -3);
        }
    }

    private static void timePasses() {
        String two = "pool 0 12;net 0 14;net 1 14;host 0 0;host 1 1;";
        Edge.says(0, "When the time passes, it increases, and then");
        Edge.asked(Edge.from(two, x -> x.pass(1), x -> x.pass(1000)), 1001, x -> x.count(0));

        Edge.says(0, "- all leases whose time is at most the time then are removed;");
        Edge.saves(Edge.from(two, x -> x.request(0)), 0, x -> x.pass(59));
        Edge.saves(Edge.from(two, x -> x.request(0)), 1, x -> x.pass(60));
        Edge.saves(Edge.from(two, x -> x.request(0)), 1, x -> x.pass(61));
        Edge.saves(Edge.from(two, x -> x.request(0), x -> x.renumber(0, 14)), 0, x -> x.pass(59));
        Edge.saves(Edge.from(two, x -> x.request(0), x -> x.renumber(0, 14)), 1, x -> x.pass(60));
        PoolRenumberer x = new PoolRenumberer();
        Edge.from(two, y -> y.setTimes(1, 100), y -> y.request(0), y -> y.setTimes(2, 100), y -> y.request(1)).on(x);
        Edge.is(x.pass(1), 1);
        Edge.is(x.host(0, 2), -9);
        Edge.is(x.host(1, 2), 5);
        Edge.is(x.pass(1), 1);
        Edge.is(x.count(5), 0);
        Edge.is(x.count(6), 0);
    }

    private static void overlapsEnd() {
        String two = "pool 0 11;net 0 14;net 1 14;host 0 0;host 1 1;host 2 0;";
        Edge.says(0, "- for each network, by ascending numbers, whose overlap ends at most at the time then, the old block is given up, "
                + "and all leases in it are removed;");
        Edge.Steps both = Edge.from(two, x -> x.setTimes(60, 20), x -> x.request(0), x -> x.request(1), x -> x.request(2),
                x -> x.renumber(1, 14), x -> x.setTimes(60, 21), x -> x.renumber(0, 14), x -> x.request(0));
        int[][] want = {{19, 2, 0, 4}, {20, 1, 1, 3}, {21, 0, 3, 1}, {22, 0, 3, 1}};
        for (int[] some : want) {
            PoolRenumberer x = new PoolRenumberer();
            both.on(x);
            int leases = x.count(5);
            Edge.is(x.pass(some[0]), leases - some[3]);
            Edge.is(x.count(3), some[1]);
            Edge.is(x.count(6), some[2]);
            Edge.is(x.count(5), some[3]);
            Edge.is(x.count(7), 32 - 8 - 4 * some[1]);
        }
        // Afterwards it can be renumbered again, and its new leases stayed.
        PoolRenumberer x = new PoolRenumberer();
        both.on(x);
        x.pass(21);
        Edge.is(x.host(0, 2), 13);
        Edge.is(x.host(0, 4), -9);
        Edge.is(x.network(0, 4), -9);
        Edge.is(x.renumber(0, 14), 0);

        Edge.says(0, "each of these is counted as cut.");
        // At one time a lease ends and an overlap: the lease is removed first, so it is not cut.
        for (int overlap = 59; overlap <= 61; overlap++) {
            x = new PoolRenumberer();
            Edge.from(two).on(x);
            x.setTimes(60, overlap);
            x.request(0);
            x.renumber(0, 14);
            x.pass(overlap);
            Edge.is(x.count(6), overlap < 60 ? 1 : 0);
        }
        // A leap over both is the same: the lease's time is at most the time then.
        x = new PoolRenumberer();
        both.on(x);
        Edge.is(x.pass(1000), 4);
        Edge.is(x.count(6), 0);
    }

    private static void renumbering() {
        String one = "pool 0 12;net 0 14;host 0 0;host 1 0 sticky;host 2 0;";
        Edge.says(0, "a block of this length is placed (the present block still being assigned);");
        Edge.saves(Edge.from(one), 4, x -> x.renumber(0, 14));
        Edge.saves(Edge.from(one), 8, x -> x.renumber(0, 13));
        Edge.refused(Edge.from(one), -3, x -> x.renumber(0, 12));
        Edge.refused(Edge.from("pool 0 14;net 0 14;"), -3, x -> x.renumber(0, 16));
        Edge.saves(Edge.from("pool 0 14;net 0 15;"), 2, x -> x.renumber(0, 15));

        Edge.says(0, "the current block becomes the old one, whose overlap ends at the time plus the overlap time, and the placed block "
                + "becomes the current one.");
        for (int overlap : new int[] {1, 100, 500}) {
            PoolRenumberer x = new PoolRenumberer();
            Edge.from(one, y -> y.pass(7), y -> y.setTimes(60, overlap), y -> y.renumber(0, 15)).on(x);
            int[] want = {4, 15, 0, 14, 7 + overlap};
            for (int what = 0; what <= 4; what++) {
                Edge.is(x.network(0, what), want[what]);
            }
            if (overlap > 1) {
                x.pass(overlap - 1);
            }
            Edge.is(x.count(3), 1);
            x.pass(1);
            Edge.is(x.count(3), 0);
        }

        Edge.says(0, "The new leases of its hosts become old leases.");
        PoolRenumberer x = new PoolRenumberer();
        Edge.from(one, y -> y.request(0), y -> y.request(1), y -> y.renumber(0, 14)).on(x);
        int[][] hosts = {{0, 0, -9, -9, 1, 60}, {0, 1, -9, -9, 2, 60}, {0, 0, -9, -9, -9, -9}};
        for (int host = 0; host <= 2; host++) {
            for (int what = 0; what <= 5; what++) {
                Edge.is(x.host(host, what), hosts[host][what]);
            }
        }
        Edge.is(x.count(5), 2);

        Edge.says(0, "If the overlap time is 0, the old block is given up at once, and its leases are removed and counted as cut.");
        Edge.Steps none = Edge.busy(one, y -> y.request(0), y -> y.request(1), y -> y.setTimes(60, 0));
        Edge.saves(none, 4, y -> y.renumber(0, 14));
        x = new PoolRenumberer();
        none.on(x);
        Edge.is(x.renumber(0, 14), 4);
        int[] counts = {0, 1, 1, 0, 3, 0, 2, 12};
        for (int what = 0; what <= 7; what++) {
            Edge.is(x.count(what), counts[what]);
        }
        Edge.is(x.owner(0), -9);
        Edge.is(x.leaseOf(1), -9);
        Edge.is(x.network(0, 4), -9);
        Edge.is(x.request(1), 5);
        Edge.is(x.renumber(0, 14), 0);
        Edge.is(x.count(6), 3);
        // By a wave too.
        x = new PoolRenumberer();
        Edge.from("pool 0 12;net 1 14;net 0 14;host 0 0;", y -> y.request(0), y -> y.release(1), y -> y.setTimes(60, 0)).on(x);
        Edge.is(x.wave(1), 1);
        Edge.is(x.count(6), 1);
        Edge.is(x.count(3), 0);

        Edge.says(0, "A network that has an old block already cannot be renumbered.");
        Edge.Steps old = Edge.busy(one, y -> y.renumber(0, 14));
        Edge.refused(old, -2, y -> y.renumber(0, 14));
        Edge.refused(old, -2, y -> y.wave(12));
        Edge.refused(old, -2, y -> y.fragmentationAfter(0));
        Edge.asked(old, -9, y -> y.bestMove());
    }

    private static void saving() {
        Edge.says(0, "Every successful call of load(), addPool(), removePool(), setPolicy(), setTimes(), assign(), release(), resize(), "
                + "renumber(), wave(), addHost(), removeHost(), request() and pass() saves the state that preceded it;");
        String text = "pool 0 12;net 9 14;net 0 14;host 0 0;host 1 0 sticky;pool 64 14;";
        // With one saved state, and with six of them.
        Edge.Steps few = Edge.from(text, x -> x.release(9));
        Edge.Steps many = Edge.busy(text, x -> x.release(9));
        for (Edge.Steps some : new Edge.Steps[] {few, many}) {
            Edge.saves(some, 2, x -> x.addPool(128, 14));
            Edge.saves(some, 1, x -> x.removePool(1));
            Edge.saves(some, 0, x -> x.setPolicy(3));
            Edge.saves(some, 0, x -> x.setPolicy(0));
            Edge.saves(some, 1, x -> x.setTimes(61, 100));
            Edge.saves(some, 0, x -> x.setTimes(60, 100));
            Edge.saves(some, 0, x -> x.assign(1, 14));
            Edge.saves(some, 2, x -> x.release(0));
            Edge.saves(some, 0, x -> x.resize(0, 13));
            Edge.saves(some, 4, x -> x.resize(0, 15));
            Edge.saves(some, 0, x -> x.renumber(0, 14));
            Edge.saves(some, 1, x -> x.wave(12));
            Edge.saves(some, 3, x -> x.addHost(2, 0, 1));
            Edge.saves(some, 0, x -> x.removeHost(0));
            Edge.saves(some, 5, x -> x.request(0));
            Edge.saves(some, 0, x -> x.pass(1));
        }
        Edge.loads(few, 0, x -> x.load());
        Edge.loads(x -> {
            many.on(x);
            x.clearText();
            Due.write(x, "pool 0 4;");
        }, 1, x -> x.load());
        // A renewal that changes nothing saves a state too.
        PoolRenumberer x = new PoolRenumberer();
        few.on(x);
        x.request(0);
        int kept = x.count(8);
        x.request(0);
        Edge.is(x.count(8), kept + 1);

        Edge.says(0, "undo() restores the most recently saved state, which consists of everything but the text and the plan, and "
                + "discards it.");
        x = new PoolRenumberer();
        x.addPool(0, 12);
        x.assign(0, 14);
        x.assign(9, 14);
        x.assign(1, 14);
        x.release(9);
        Due.write(x, "pool 4 14");
        Edge.is(x.makePlan(12), 1);
        Edge.is(x.undo(), 4);
        Edge.is(x.network(9, 0), 4);
        Edge.is(x.plan(0, 0), 1);
        Edge.is(x.plan(0, 1), 4);
        Edge.is(x.plan(0, 2), 0);
        Edge.is(x.appendCharacter(59), 10);
        Edge.is(x.undo(), 3);
        Edge.is(x.clearText(), 10);
        Edge.is(x.count(2), 2);
        // A text that was loaded does not come back.
        x = new PoolRenumberer();
        Due.write(x, "policy 1;");
        x.load();
        Edge.is(x.undo(), 0);
        Edge.is(x.clearText(), 0);
    }

    private static void sevenStates() {
        Edge.says(0, "At most 6 states are kept;");
        PoolRenumberer x = new PoolRenumberer();
        for (int turn = 1; turn <= 8; turn++) {
            x.pass(1);
            Edge.is(x.count(8), Math.min(turn, 6));
        }

        Edge.says(0, "when a seventh is saved, the oldest one is discarded.");
        for (int calls = 6; calls <= 14; calls++) {
            x = new PoolRenumberer();
            for (int turn = 0; turn < calls; turn++) {
                x.pass(1);
            }
            for (int left = 5; left >= 0; left--) {
                Edge.is(x.undo(), left);
            }
            Edge.is(x.count(0), calls - 6);
            Edge.is(x.undo(), -2);
        }
    }

    private static void errorCodes() {
        Edge.says(0, "A method that returns an error code changes nothing.");
        // Four full pools with leases, a plan, a text and six saved states.
        Edge.Steps full = Edge.busy("pool 0 14;pool 4 14;pool 8 14;pool 12 14;net 0 14;net 1 14;net 2 15;net 3 15;net 4 14;host 0 0;"
                + "host 1 0;host 2 0;", x -> x.request(0), x -> x.request(1));
        Edge.refused(full, -1, x -> x.appendCharacter(256));
        Edge.refused(full, -20, x -> x.load());
        Edge.refused(full, -1, x -> x.addPool(1, 14));
        Edge.refused(full, -2, x -> x.addPool(0, 12));
        Edge.refused(full, -3, x -> x.addPool(16, 14));
        Edge.refused(full, -1, x -> x.removePool(4));
        Edge.refused(full, -2, x -> x.removePool(3));
        Edge.refused(full, -1, x -> x.setPolicy(4));
        Edge.refused(full, -1, x -> x.assign(12, 16));
        Edge.refused(full, -2, x -> x.assign(0, 16));
        Edge.refused(full, -3, x -> x.assign(5, 16));
        Edge.refused(full, -1, x -> x.release(12));
        Edge.refused(full, -2, x -> x.release(0));
        Edge.refused(full, -2, x -> x.release(5));
        Edge.refused(full, -1, x -> x.resize(0, 4));
        Edge.refused(full, -2, x -> x.resize(0, 13));
        Edge.refused(full, -2, x -> x.resize(0, 15));
        Edge.refused(full, -1, x -> x.renumber(0, 17));
        Edge.refused(full, -2, x -> x.renumber(5, 16));
        Edge.refused(full, -3, x -> x.renumber(0, 16));
        Edge.refused(full, -1, x -> x.wave(13));
        Edge.refused(full, -2, x -> x.wave(12));
        Edge.refused(full, -1, x -> x.addHost(3, 0, 2));
        Edge.refused(full, -2, x -> x.addHost(0, 1, 0));
        Edge.refused(full, -1, x -> x.removeHost(16));
        Edge.refused(full, -2, x -> x.removeHost(3));
        Edge.refused(full, -1, x -> x.request(16));
        Edge.refused(full, -2, x -> x.request(3));
        Edge.refused(full, -3, x -> x.request(2));
        Edge.refused(full, -1, x -> x.pass(1001));
        Edge.refused(full, -1, x -> x.setTimes(501, 0));
        Edge.refused(full, -1, x -> x.makePlan(13));
        Edge.refused(Edge.NEW, -2, x -> x.undo());

        Edge.says(0, "If several error codes apply, the one that is named first in the description of the method is returned;");
        Edge.refused(x -> Due.write(x, " ".repeat(150)), -1, x -> x.appendCharacter(256));
        Edge.refused(full, -1, x -> x.addPool(2, 14));
        Edge.refused(full, -1, x -> x.addPool(0, 3));
        Edge.refused(full, -2, x -> x.addPool(0, 14));
        Edge.refused(full, -1, x -> x.assign(0, 4));
        Edge.refused(full, -2, x -> x.assign(0, 5));
        Edge.refused(full, -1, x -> x.resize(5, 17));
        Edge.refused(full, -1, x -> x.renumber(5, 17));
        Edge.refused(full, -2, x -> x.renumber(5, 5));
        Edge.refused(full, -1, x -> x.addHost(0, 5, 2));
        Edge.Steps late = x -> {
            for (int turn = 0; turn < 9; turn++) {
                x.pass(1000);
            }
            x.pass(999);
        };
        Edge.refused(late, -1, x -> x.pass(1001));
        Edge.refused(late, -1, x -> x.pass(Integer.MAX_VALUE));

        Edge.says(0, "NONE is no error, and it is returned only if no error code applies.");
        Edge.refused(Edge.NEW, -1, x -> x.network(0, 6));
        Edge.refused(Edge.NEW, -1, x -> x.network(12, 0));
        Edge.refused(Edge.NEW, -1, x -> x.host(0, 6));
        Edge.refused(Edge.NEW, -1, x -> x.host(16, 0));
        Edge.refused(Edge.NEW, -1, x -> x.owner(65536));
        Edge.refused(Edge.NEW, -1, x -> x.leaseOf(65536));
        Edge.refused(Edge.NEW, -1, x -> x.route(0, 2));
        Edge.refused(Edge.NEW, -1, x -> x.plan(0, 3));
        Edge.refused(full, -1, x -> x.fragmentationAfter(12));
        Edge.refused(full, -2, x -> x.fragmentationAfter(5));
        Edge.asked(full, -9, x -> x.fragmentationAfter(0));
    }

    private static void constants() {
        Edge.says(0, "`INVALID_ARGUMENT = -1`: An argument is out of range, or names something that does not exist.");
        Edge.is(PoolRenumberer.INVALID_ARGUMENT, -1);
        Edge.refused(Edge.NEW, PoolRenumberer.INVALID_ARGUMENT, x -> x.removePool(0));
        Edge.says(0, "`ILLEGAL_STATE = -2`: The call is not possible in the present state.");
        Edge.is(PoolRenumberer.ILLEGAL_STATE, -2);
        Edge.refused(Edge.NEW, PoolRenumberer.ILLEGAL_STATE, x -> x.undo());
        Edge.says(0, "`CAPACITY_EXCEEDED = -3`: There is no room.");
        Edge.is(PoolRenumberer.CAPACITY_EXCEEDED, -3);
        Edge.refused(Edge.NEW, PoolRenumberer.CAPACITY_EXCEEDED, x -> x.assign(0, 16));
        Edge.says(0, "`NONE = -9`: There is no such value.");
        Edge.is(PoolRenumberer.NONE, -9);
        Edge.asked(Edge.NEW, PoolRenumberer.NONE, x -> x.nextEvent());
    }
}
