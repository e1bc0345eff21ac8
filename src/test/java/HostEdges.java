/** The edges that promises 20 to 28 name, sentence by sentence. */
final class HostEdges {
    /** Network 0 has 0 to 3, so its addresses 1 and 2 can be leased; network 1 has 4 to 7. */
    private static final String TWO = "pool 0 12;net 0 14;net 1 14;host 0 0;host 1 0 sticky;host 2 0;host 15 1;";
    /** Hosts 0 and 1 have old leases 1 and 2, until 60; the overlap ends at 100; the current block is 8 to 11. */
    private static final Edge.Steps OVERLAP = Edge.busy(TWO, x -> x.request(0), x -> x.request(1), x -> x.renumber(0, 14));

    private HostEdges() {
    }

    static void lookAtAll() {
        promise20();
        promise20Refused();
        promise21();
        promise22Renewed();
        promise22Sticky();
        promise22Distance();
        promise22Smallest();
        promise22Until();
        promise22Refused();
        promise23();
        promise24();
        promise25();
        promise25Last();
        promise26();
        promise27();
        promise28();
        promise28Each();
    }

    private static void promise20() {
        Edge.says(20, "Makes a host a host of a network.");
        Edge.saves(Edge.busy(TWO), 4, x -> x.addHost(3, 0, 1));
        PoolRenumberer x = new PoolRenumberer();
        Edge.from(TWO).on(x);
        x.addHost(3, 1, 1);
        int[] want = {1, 1, -9, -9, -9, -9};
        for (int what = 0; what <= 5; what++) {
            Edge.is(x.host(3, what), want[what]);
        }
        Edge.is(x.network(1, 5), 2);
        // It was sticky and had a lease before, and nothing of it is left.
        x.request(3);
        x.removeHost(3);
        x.addHost(3, 0, 0);
        int[] again = {0, 0, -9, -9, -9, -9};
        for (int what = 0; what <= 5; what++) {
            Edge.is(x.host(3, what), again[what]);
        }

        Edge.says(20, "`host`: 0 to 15");
        Edge.Steps one = Edge.from("pool 0 12;net 0 14;net 11 14;");
        for (int host = 0; host <= 15; host++) {
            int some = host;
            Edge.saves(one, 1, y -> y.addHost(some, 0, 0));
        }

        Edge.says(20, "`network`: 0 to 11");
        Edge.saves(one, 1, y -> y.addHost(0, 0, 0));
        Edge.saves(one, 1, y -> y.addHost(0, 11, 0));

        Edge.says(20, "`sticky`: 1 or 0");
        for (int sticky = 0; sticky <= 1; sticky++) {
            x = new PoolRenumberer();
            one.on(x);
            x.addHost(15, 11, sticky);
            Edge.is(x.host(15, 1), sticky);
        }

        Edge.says(20, "Returns the number of hosts of the network then;");
        x = new PoolRenumberer();
        one.on(x);
        Edge.is(x.addHost(0, 11, 0), 1);
        for (int host = 1; host <= 15; host++) {
            Edge.is(x.addHost(host, 0, 1), host);
        }
        Edge.is(x.removeHost(0), 0);
        Edge.is(x.addHost(0, 0, 0), 16);
    }

    private static void promise20Refused() {
        Edge.says(20, "INVALID_ARGUMENT if an argument is out of range;");
        Edge.Steps some = Edge.busy(TWO);
        for (int host : Edge.outside(0, 15)) {
            Edge.refused(some, -1, x -> x.addHost(host, 0, 0));
            Edge.refused(Edge.NEW, -1, x -> x.addHost(host, 0, 0));
        }
        for (int network : Edge.outside(0, 11)) {
            // Host 3 belongs to no network, host 0 to one.
            Edge.refused(some, -1, x -> x.addHost(3, network, 0));
            Edge.refused(some, -1, x -> x.addHost(0, network, 0));
        }
        for (int sticky : Edge.outside(0, 1)) {
            Edge.refused(some, -1, x -> x.addHost(3, 0, sticky));
            Edge.refused(some, -1, x -> x.addHost(0, 0, sticky));
            Edge.refused(some, -1, x -> x.addHost(3, 2, sticky));
        }

        Edge.says(20, "ILLEGAL_STATE if the host belongs to a network, or the network has no block.");
        Edge.refused(some, -2, x -> x.addHost(0, 0, 0));
        Edge.refused(some, -2, x -> x.addHost(0, 1, 0));
        Edge.refused(some, -2, x -> x.addHost(15, 1, 1));
        Edge.refused(some, -2, x -> x.addHost(3, 2, 0));
        Edge.refused(some, -2, x -> x.addHost(3, 11, 1));
        Edge.refused(some, -2, x -> x.addHost(0, 11, 1));
        Edge.refused(Edge.NEW, -2, x -> x.addHost(0, 0, 0));
        Edge.refused(Edge.from(TWO, x -> x.release(1)), -2, x -> x.addHost(15, 1, 0));
        Edge.saves(Edge.from(TWO, x -> x.removeHost(0)), 2, x -> x.addHost(0, 1, 0));
        Edge.saves(Edge.from(TWO, x -> x.release(1)), 4, x -> x.addHost(15, 0, 0));
        // A network with an old block and no free address still takes hosts.
        Edge.saves(OVERLAP, 4, x -> x.addHost(3, 0, 0));
        Edge.saves(Edge.from(TWO, x -> x.request(0), x -> x.request(1)), 4, x -> x.addHost(3, 0, 0));
    }

    private static void promise21() {
        Edge.says(21, "Makes a host belong to no network.");
        Edge.saves(Edge.busy(TWO), 0, x -> x.removeHost(1));
        PoolRenumberer x = new PoolRenumberer();
        Edge.from(TWO).on(x);
        x.removeHost(1);
        for (int what = 0; what <= 5; what++) {
            Edge.is(x.host(1, what), -9);
        }
        Edge.is(x.network(0, 5), 2);
        Edge.is(x.count(4), 3);

        Edge.says(21, "Its leases are removed.");
        x = new PoolRenumberer();
        OVERLAP.on(x);
        x.request(0);
        Edge.is(x.count(5), 3);
        Edge.is(x.leaseOf(9), 0);
        x.removeHost(0);
        Edge.is(x.count(5), 1);
        Edge.is(x.leaseOf(9), -9);
        Edge.is(x.leaseOf(1), -9);
        Edge.is(x.leaseOf(2), 1);
        // They are not cut, and their addresses are free for others.
        Edge.is(x.count(6), 0);
        Edge.is(x.request(2), 9);

        Edge.says(21, "`host`: 0 to 15");
        Edge.saves(Edge.from(TWO), 0, y -> y.removeHost(0));
        Edge.saves(Edge.from(TWO), 0, y -> y.removeHost(15));

        Edge.says(21, "Returns the number of leases that it had;");
        Edge.saves(Edge.from(TWO), 0, y -> y.removeHost(2));
        Edge.saves(Edge.from(TWO, y -> y.request(2)), 1, y -> y.removeHost(2));
        Edge.saves(OVERLAP, 1, y -> y.removeHost(0));
        Edge.saves(Edge.from(TWO, y -> y.request(0), y -> y.renumber(0, 14), y -> y.request(0)), 2, y -> y.removeHost(0));
        Edge.saves(OVERLAP, 0, y -> y.removeHost(2));
        Edge.saves(Edge.from(TWO, y -> y.request(2), y -> y.pass(60)), 0, y -> y.removeHost(2));

        Edge.says(21, "INVALID_ARGUMENT if host is out of range;");
        for (int host : Edge.outside(0, 15)) {
            Edge.refused(Edge.NEW, -1, y -> y.removeHost(host));
            Edge.refused(OVERLAP, -1, y -> y.removeHost(host));
        }

        Edge.says(21, "ILLEGAL_STATE if it belongs to no network.");
        Edge.refused(Edge.NEW, -2, y -> y.removeHost(0));
        Edge.refused(Edge.NEW, -2, y -> y.removeHost(15));
        Edge.refused(OVERLAP, -2, y -> y.removeHost(3));
        Edge.refused(Edge.from(TWO, y -> y.removeHost(0)), -2, y -> y.removeHost(0));
        Edge.refused(Edge.from(TWO, y -> y.release(1)), -2, y -> y.removeHost(15));
    }

    private static void promise22Renewed() {
        Edge.says(22, "Requests a lease for a host.");
        Edge.saves(Edge.busy(TWO), 1, x -> x.request(0));
        Edge.saves(Edge.busy(TWO), 5, x -> x.request(15));

        Edge.says(22, "If the host has a new lease, this is renewed.");
        for (int host = 0; host <= 1; host++) {
            int some = host;
            Edge.Steps leased = Edge.busy(TWO, x -> x.request(some), x -> x.pass(59));
            Edge.saves(leased, 1, x -> x.request(some));
            PoolRenumberer x = new PoolRenumberer();
            leased.on(x);
            x.request(host);
            Edge.is(x.host(host, 2), 1);
            Edge.is(x.host(host, 3), 119);
            Edge.is(x.count(5), 1);
        }
        // Also without another free address, and beside an old lease, which stays as it is.
        PoolRenumberer x = new PoolRenumberer();
        OVERLAP.on(x);
        Edge.is(x.request(0), 9);
        Edge.is(x.request(2), 10);
        x.pass(5);
        Edge.is(x.request(0), 9);
        int[] want = {0, 0, 9, 65, 1, 60};
        for (int what = 0; what <= 5; what++) {
            Edge.is(x.host(0, what), want[what]);
        }
        // At the time at which it ends it is gone, and a new one is got.
        Edge.Steps ended = Edge.from(TWO, y -> y.request(2), y -> y.request(0), y -> y.removeHost(2), y -> y.pass(60));
        Edge.saves(ended, 1, y -> y.request(0));
        Edge.Steps lasting = Edge.from(TWO, y -> y.request(2), y -> y.request(0), y -> y.removeHost(2), y -> y.pass(59));
        Edge.saves(lasting, 2, y -> y.request(0));
    }

    private static void promise22Sticky() {
        Edge.says(22, "Otherwise, if it is sticky and has an old lease, this is renewed.");
        Edge.saves(OVERLAP, 2, x -> x.request(1));
        Edge.saves(OVERLAP, 9, x -> x.request(0));
        Edge.saves(Edge.from(TWO, x -> x.request(1), x -> x.renumber(0, 14), x -> x.pass(1)), 1, x -> x.request(1));
        PoolRenumberer x = new PoolRenumberer();
        OVERLAP.on(x);
        x.pass(1);
        Edge.is(x.request(1), 2);
        int[] want = {0, 1, -9, -9, 2, 61};
        for (int what = 0; what <= 5; what++) {
            Edge.is(x.host(1, what), want[what]);
        }
        // Also when the current block is full.
        Edge.is(x.request(0), 9);
        Edge.is(x.request(2), 10);
        Edge.is(x.request(1), 2);
        // Without an old lease it gets a new one; so it does when the old one has ended.
        x.removeHost(2);
        x.addHost(2, 0, 1);
        Edge.is(x.request(2), 10);
        Edge.is(x.host(2, 4), -9);
        x.pass(60);
        Edge.is(x.host(1, 4), -9);
        Edge.is(x.request(1), 9);
        Edge.is(x.host(1, 2), 9);
    }

    /** Network 0 has 0 to 15 with leases 1 to 5 of hosts 0 to 4; it goes to 16 with some length. */
    private static PoolRenumberer moved(int length) {
        PoolRenumberer x = new PoolRenumberer();
        Edge.from("pool 0 10;net 0 12;host 0 0;host 1 0;host 2 0;host 3 0;host 4 0;host 5 0;").on(x);
        for (int host = 0; host <= 4; host++) {
            Edge.is(x.request(host), host + 1);
        }
        Edge.is(x.renumber(0, length), length == 11 ? 32 : 16);
        return x;
    }

    private static void promise22Distance() {
        Edge.says(22, "with the address that has the same distance from the beginning of the current block as the address of its "
                + "old lease from the beginning of the old block, if it has an old lease, and this address is in the current "
                + "block, can be leased and is free of leases;");
        PoolRenumberer x = moved(12);
        Edge.is(x.request(4), 21);
        Edge.is(x.request(2), 19);
        Edge.is(x.request(5), 17);
        // The place of host 0 is taken by host 5, so it gets the smallest one.
        Edge.is(x.request(0), 18);
        Edge.is(x.request(1), 20);
        x = moved(11);
        Edge.is(x.request(4), 37);
        // 16 to 23: all five are in it and can be leased.
        x = moved(13);
        Edge.is(x.request(4), 21);
        Edge.is(x.request(0), 17);
        // 16 to 19: 3 is the last one and 4 and 5 are not in it.
        for (int host = 2; host <= 4; host++) {
            x = moved(14);
            Edge.is(x.request(host), 17);
        }
        x = moved(14);
        Edge.is(x.request(1), 18);
        // 16 and 17: all can be leased, and 1 is in it.
        x = moved(15);
        Edge.is(x.request(0), 17);
        x = moved(15);
        Edge.is(x.request(1), 16);
        // 16 alone.
        x = moved(16);
        Edge.is(x.request(0), 16);
        // From a block of 2, in which the first address can be leased, to one of 4, in which it cannot.
        x = new PoolRenumberer();
        Edge.from("pool 0 13;net 0 15;host 0 0;host 1 0;", y -> y.request(0), y -> y.request(1),
                y -> y.renumber(0, 14)).on(x);
        Edge.is(x.network(0, 0), 4);
        Edge.is(x.request(0), 5);
        Edge.is(x.request(1), 6);
        // The old block does not begin with 0.
        x = new PoolRenumberer();
        Edge.from("pool 0 11;net 1 13;net 0 13;host 0 0;host 1 0;host 2 0;", y -> y.request(0), y -> y.request(1),
                y -> y.request(2), y -> y.renumber(0, 13)).on(x);
        Edge.is(x.network(0, 2), 8);
        Edge.is(x.network(0, 0), 16);
        Edge.is(x.request(2), 19);
        Edge.is(x.request(1), 18);
        // The current block is below the old one, and was made greater, so that it begins earlier.
        x = new PoolRenumberer();
        Edge.from("pool 65520 12;policy 3;net 0 13;host 0 0;", y -> y.request(0), y -> y.renumber(0, 14)).on(x);
        Edge.is(x.host(0, 4), 65529);
        Edge.is(x.network(0, 0), 65524);
        Edge.is(x.resize(0, 13), 65520);
        Edge.is(x.request(0), 65521);
        // At the end of all addresses: the same distance would be behind the address 65535.
        x = new PoolRenumberer();
        Edge.from("pool 65520 12;net 0 13;host 0 0;host 1 0;host 2 0;host 3 0;host 4 0;policy 3;").on(x);
        for (int host = 0; host <= 4; host++) {
            x.request(host);
        }
        Edge.is(x.renumber(0, 14), 65532);
        Edge.is(x.host(4, 4), 65525);
        Edge.is(x.request(4), 65533);
    }

    private static void promise22Smallest() {
        Edge.says(22, "else with the smallest address of the current block that can be leased and is free of leases.");
        int[][] blocks = {{16, 1, 0}, {15, 2, 0}, {14, 2, 1}, {13, 6, 1}, {12, 14, 1}};
        for (int[] block : blocks) {
            PoolRenumberer x = new PoolRenumberer();
            Edge.from("pool 64 12;").on(x);
            x.assign(0, block[0]);
            for (int host = 0; host <= 15; host++) {
                x.addHost(host, 0, host % 2);
            }
            for (int host = 0; host <= 15; host++) {
                Edge.is(x.request(host), host < block[1] ? 64 + block[2] + host : -3);
            }
        }
        // The address that became free in between.
        PoolRenumberer x = moved(12);
        Edge.is(x.request(1), 18);
        Edge.is(x.request(5), 17);
        x.removeHost(5);
        x.addHost(5, 0, 0);
        Edge.is(x.request(5), 17);
        // The greatest blocks at the end of all addresses.
        x = new PoolRenumberer();
        Edge.from("pool 61440 4;policy 3;net 0 5;net 1 16;host 0 0;host 1 1;").on(x);
        Edge.is(x.request(0), 63489);
        Edge.is(x.request(1), 63487);
        Edge.is(lastAddress(), 65535);
    }

    private static int lastAddress() {
        PoolRenumberer x = new PoolRenumberer();
        Edge.from("pool 65532 14;policy 3;net 0 16;host 0 0;").on(x);
        return x.request(0);
    }

    private static void promise22Until() {
        Edge.says(22, "A lease that is got or renewed is valid until the time plus the lease time;");
        for (int time : new int[] {1, 60, 500}) {
            PoolRenumberer x = new PoolRenumberer();
            Edge.from(TWO, y -> y.pass(3), y -> y.setTimes(time, 100)).on(x);
            x.request(0);
            Edge.is(x.host(0, 3), 3 + time);
            x.setTimes(7, 100);
            x.request(0);
            Edge.is(x.host(0, 3), 10);
        }
        PoolRenumberer x = new PoolRenumberer();
        Edge.from(TWO, y -> y.setTimes(500, 500)).on(x);
        for (int turn = 0; turn < 9; turn++) {
            x.pass(1000);
        }
        x.pass(999);
        x.request(0);
        Edge.is(x.host(0, 3), 10499);

        Edge.says(22, "but an old one at most until the overlap ends.");
        int[][] cases = {{50, 0, 50}, {50, 39, 89}, {60, 40, 100}, {61, 40, 100}, {500, 40, 100}, {60, 59, 100}, {1, 59, 60}};
        for (int[] some : cases) {
            x = new PoolRenumberer();
            OVERLAP.on(x);
            if (some[1] > 0) {
                x.pass(some[1]);
            }
            x.setTimes(some[0], 0);
            Edge.is(x.request(1), 2);
            Edge.is(x.host(1, 5), some[2]);
        }
        // An old lease that is not renewed keeps its time, and a new one is not bound by the overlap.
        x = new PoolRenumberer();
        Edge.from(TWO, y -> y.setTimes(60, 20), y -> y.request(0), y -> y.renumber(0, 14), y -> y.request(0)).on(x);
        Edge.is(x.host(0, 5), 60);
        Edge.is(x.host(0, 3), 60);
        Edge.is(x.network(0, 4), 20);
    }

    private static void promise22Refused() {
        Edge.says(22, "`host`: 0 to 15");
        Edge.saves(Edge.from(TWO), 1, x -> x.request(0));
        Edge.saves(Edge.from(TWO), 5, x -> x.request(15));

        Edge.says(22, "Returns the address;");
        Edge.saves(Edge.from("pool 0 14;net 0 16;host 0 0;"), 0, x -> x.request(0));
        Edge.saves(Edge.from("pool 65532 14;policy 3;net 0 16;host 0 0;"), 65535, x -> x.request(0));

        Edge.says(22, "INVALID_ARGUMENT if host is out of range;");
        for (int host : Edge.outside(0, 15)) {
            Edge.refused(Edge.NEW, -1, x -> x.request(host));
            Edge.refused(OVERLAP, -1, x -> x.request(host));
        }

        Edge.says(22, "ILLEGAL_STATE if the host belongs to no network;");
        Edge.refused(Edge.NEW, -2, x -> x.request(0));
        Edge.refused(Edge.NEW, -2, x -> x.request(15));
        Edge.refused(OVERLAP, -2, x -> x.request(3));
        Edge.refused(Edge.from(TWO, x -> x.removeHost(0)), -2, x -> x.request(0));
        Edge.refused(Edge.from(TWO, x -> x.release(1)), -2, x -> x.request(15));

        Edge.says(22, "CAPACITY_EXCEEDED if there is no address for it.");
        Edge.refused(Edge.busy(TWO, x -> x.request(0), x -> x.request(1)), -3, x -> x.request(2));
        Edge.refused(Edge.busy(TWO, x -> x.request(0), x -> x.request(2)), -3, x -> x.request(1));
        Edge.refused(Edge.from("pool 0 14;net 0 16;host 0 0;host 1 0;", x -> x.request(0)), -3, x -> x.request(1));
        Edge.refused(Edge.from("pool 0 14;net 0 15;host 0 0;host 1 0;host 2 0;", x -> x.request(0), x -> x.request(1)), -3,
                x -> x.request(2));
        // With an old lease, but no address in the current block.
        Edge.refused(Edge.busy(TWO, x -> x.request(0), x -> x.renumber(0, 16), x -> x.request(2)), -3, x -> x.request(0));
        Edge.saves(Edge.busy(TWO, x -> x.request(1), x -> x.renumber(0, 16), x -> x.request(2)), 1, x -> x.request(1));
        // The time at which another lease ends, and the one before it.
        Edge.refused(Edge.from(TWO, x -> x.request(0), x -> x.request(1), x -> x.pass(59)), -3, x -> x.request(2));
        Edge.saves(Edge.from(TWO, x -> x.request(0), x -> x.request(1), x -> x.pass(60)), 1, x -> x.request(2));
    }

    private static void promise23() {
        Edge.says(23, "Returns a property of a host.");
        Edge.Steps both = Edge.busy("pool 65520 12;policy 3;net 11 14;host 0 11;host 15 11 sticky;", x -> x.request(0),
                x -> x.request(15), x -> x.renumber(11, 16), x -> x.pass(1), x -> x.request(0));
        int[] first = {11, 0, 65531, 61, 65533, 60};
        int[] last = {11, 1, -9, -9, 65534, 60};
        for (int what = 0; what <= 5; what++) {
            int part = what;
            Edge.asked(both, first[what], x -> x.host(0, part));
            Edge.asked(both, last[what], x -> x.host(15, part));
        }

        Edge.says(23, "`host`: 0 to 15");
        Edge.asked(both, 0, x -> x.host(0, 1));
        Edge.asked(both, 1, x -> x.host(15, 1));

        Edge.says(23, "`what`: 0 its network, 1 1 if it is sticky and 0 if not, 2 the address of its new lease, 3 the time until "
                + "which this is valid, 4 and 5 the same of its old lease");
        int[] least = {0, 1, 0, 60, -9, -9};
        Edge.Steps zero = Edge.from("pool 0 14;net 0 16;host 0 0 sticky;", x -> x.request(0));
        for (int what = 0; what <= 5; what++) {
            int part = what;
            Edge.asked(zero, least[what], x -> x.host(0, part));
        }

        Edge.says(23, "Returns the property;");
        Edge.asked(both, 11, x -> x.host(15, 0));

        Edge.says(23, "INVALID_ARGUMENT if an argument is out of range;");
        for (int host : Edge.outside(0, 15)) {
            Edge.refused(Edge.NEW, -1, x -> x.host(host, 0));
            Edge.refused(both, -1, x -> x.host(host, 5));
        }
        for (int what : Edge.outside(0, 5)) {
            Edge.refused(both, -1, x -> x.host(0, what));
            Edge.refused(both, -1, x -> x.host(1, what));
        }

        Edge.says(23, "NONE for all if it belongs to no network, and if there is no such lease.");
        for (int what = 0; what <= 5; what++) {
            int part = what;
            Edge.asked(Edge.NEW, -9, x -> x.host(0, part));
            Edge.asked(both, -9, x -> x.host(1, part));
            Edge.asked(Edge.from(TWO, x -> x.request(1), x -> x.removeHost(1)), -9, x -> x.host(1, part));
            Edge.asked(Edge.from(TWO, x -> x.release(1)), -9, x -> x.host(15, part));
            Edge.asked(Edge.from(TWO), part < 2 ? part : -9, x -> x.host(1, part));
            Edge.asked(Edge.from(TWO, x -> x.request(1), x -> x.pass(60)), part < 2 ? part : -9, x -> x.host(1, part));
            Edge.asked(Edge.from(TWO, x -> x.request(1), x -> x.setTimes(60, 0), x -> x.renumber(0, 14)),
                    part < 2 ? part : -9, x -> x.host(1, part));
        }
    }

    private static void promise24() {
        Edge.says(24, "Returns the host that has a lease of an address.");
        PoolRenumberer x = new PoolRenumberer();
        OVERLAP.on(x);
        x.request(0);
        x.request(15);
        int[] hosts = {-9, 0, 1, -9, -9, 15, -9, -9, -9, 0, -9, -9, -9, -9, -9, -9};
        for (int address = 0; address <= 15; address++) {
            Edge.is(x.leaseOf(address), hosts[address]);
        }
        Edge.asked(OVERLAP, 1, y -> y.leaseOf(2));

        Edge.says(24, "`address`: 0 to 65535");
        Edge.asked(Edge.from("pool 0 14;net 0 16;host 3 0;", y -> y.request(3)), 3, y -> y.leaseOf(0));
        Edge.asked(Edge.from("pool 65532 14;policy 3;net 0 16;host 3 0;", y -> y.request(3)), 3, y -> y.leaseOf(65535));

        Edge.says(24, "Returns the host;");
        Edge.asked(Edge.from(TWO, y -> y.request(0)), 0, y -> y.leaseOf(1));
        Edge.asked(Edge.from(TWO, y -> y.request(15)), 15, y -> y.leaseOf(5));

        Edge.says(24, "INVALID_ARGUMENT if address is out of range;");
        for (int address : Edge.outside(0, 65535)) {
            // No lease has these numbers, though they stand inside for what is absent.
            Edge.refused(Edge.NEW, -1, y -> y.leaseOf(address));
            Edge.refused(OVERLAP, -1, y -> y.leaseOf(address));
        }

        Edge.says(24, "NONE if there is none.");
        for (int address : new int[] {0, 1, 65534, 65535}) {
            Edge.asked(Edge.NEW, -9, y -> y.leaseOf(address));
            Edge.asked(Edge.from(TWO), -9, y -> y.leaseOf(address));
        }
        Edge.asked(Edge.from(TWO, y -> y.request(0), y -> y.pass(59)), 0, y -> y.leaseOf(1));
        Edge.asked(Edge.from(TWO, y -> y.request(0), y -> y.pass(60)), -9, y -> y.leaseOf(1));
        Edge.asked(Edge.from(TWO, y -> y.request(0), y -> y.removeHost(0)), -9, y -> y.leaseOf(1));
    }

    private static void promise25() {
        Edge.says(25, "Lets time pass.");
        Edge.saves(Edge.busy(TWO), 0, x -> x.pass(1));
        PoolRenumberer x = new PoolRenumberer();
        Edge.is(x.pass(1), 0);
        Edge.is(x.count(0), 1);
        Edge.is(x.pass(1000), 0);
        Edge.is(x.count(0), 1001);

        Edge.says(25, "`duration`: 1 to 1000");
        Edge.saves(Edge.NEW, 0, y -> y.pass(1));
        Edge.saves(Edge.NEW, 0, y -> y.pass(1000));

        Edge.says(25, "Returns the number of leases that are removed;");
        Edge.saves(OVERLAP, 0, y -> y.pass(59));
        Edge.saves(OVERLAP, 2, y -> y.pass(60));
        // Ended and cut ones: new leases until 60, an old one until 60 that is cut at 20.
        Edge.Steps mixed = Edge.from(TWO, y -> y.setTimes(60, 20), y -> y.request(0), y -> y.renumber(0, 14),
                y -> y.request(0), y -> y.request(15));
        Edge.saves(mixed, 0, y -> y.pass(19));
        Edge.saves(mixed, 1, y -> y.pass(20));
        Edge.saves(mixed, 1, y -> y.pass(59));
        Edge.saves(mixed, 3, y -> y.pass(60));
        Edge.saves(mixed, 3, y -> y.pass(1000));
        // 16 hosts with two leases each.
        x = new PoolRenumberer();
        Edge.from("pool 0 10;net 0 11;").on(x);
        for (int host = 0; host <= 15; host++) {
            x.addHost(host, 0, 0);
            x.request(host);
        }
        x.renumber(0, 11);
        for (int host = 0; host <= 15; host++) {
            x.request(host);
        }
        Edge.is(x.count(5), 32);
        Edge.is(x.pass(60), 32);

        Edge.says(25, "INVALID_ARGUMENT if duration is out of range;");
        for (int duration : Edge.outside(1, 1000)) {
            Edge.refused(Edge.NEW, -1, y -> y.pass(duration));
            Edge.refused(OVERLAP, -1, y -> y.pass(duration));
        }
    }

    private static Edge.Steps at(int time) {
        return x -> {
            for (int left = time; left > 0; left -= 1000) {
                x.pass(Math.min(left, 1000));
            }
            Due.is("the time of a scene", x.count(0), time);
        };
    }

    private static void promise25Last() {
        Edge.says(25, "CAPACITY_EXCEEDED if the time would be above 9999.");
        Edge.saves(at(9998), 0, x -> x.pass(1));
        Edge.refused(at(9998), -3, x -> x.pass(2));
        Edge.saves(at(8999), 0, x -> x.pass(1000));
        Edge.refused(at(9000), -3, x -> x.pass(1000));
        Edge.saves(at(9000), 0, x -> x.pass(999));
        Edge.refused(at(9999), -3, x -> x.pass(1));
        Edge.refused(at(9999), -3, x -> x.pass(1000));
        // Out of range too.
        for (int duration : Edge.outside(1, 1000)) {
            Edge.refused(at(9999), -1, x -> x.pass(duration));
        }
        // After a load the time is 0 again, after an undo it is what it was.
        PoolRenumberer x = new PoolRenumberer();
        at(9999).on(x);
        x.undo();
        Edge.is(x.pass(999), 0);
        Edge.is(x.pass(1), -3);
        x.load();
        Edge.is(x.pass(1000), 0);
        // Leases that would end later stay.
        x = new PoolRenumberer();
        at(9999).on(x);
        x.addPool(0, 12);
        x.assign(0, 14);
        x.addHost(0, 0, 0);
        x.request(0);
        x.renumber(0, 14);
        Edge.is(x.pass(1), -3);
        Edge.is(x.count(5), 1);
        Edge.is(x.nextEvent(), 10059);
    }

    private static void promise26() {
        Edge.says(26, "Sets the lease time and the overlap time.");
        PoolRenumberer x = new PoolRenumberer();
        Edge.from(TWO, y -> y.setTimes(7, 9)).on(x);
        x.request(0);
        x.renumber(0, 14);
        Edge.is(x.host(0, 5), 7);
        Edge.is(x.network(0, 4), 9);

        Edge.says(26, "Leases and overlaps that exist stay as they are.");
        x = new PoolRenumberer();
        OVERLAP.on(x);
        x.request(0);
        for (int[] times : new int[][] {{1, 0}, {500, 500}}) {
            x.setTimes(times[0], times[1]);
            Edge.is(x.host(0, 3), 60);
            Edge.is(x.host(0, 5), 60);
            Edge.is(x.network(0, 4), 100);
            Edge.is(x.count(5), 3);
            Edge.is(x.count(3), 1);
        }
        Edge.saves(OVERLAP, 1, y -> y.setTimes(1, 0));

        Edge.says(26, "`lease`: 1 to 500");
        Edge.saves(Edge.NEW, 1, y -> y.setTimes(1, 100));
        Edge.saves(Edge.NEW, 1, y -> y.setTimes(500, 100));

        Edge.says(26, "`overlap`: 0 to 500");
        Edge.saves(Edge.NEW, 1, y -> y.setTimes(60, 0));
        Edge.saves(Edge.NEW, 1, y -> y.setTimes(60, 500));

        Edge.says(26, "Returns 1 if something changed, otherwise 0;");
        Edge.saves(Edge.NEW, 0, y -> y.setTimes(60, 100));
        Edge.saves(OVERLAP, 0, y -> y.setTimes(60, 100));
        Edge.saves(Edge.NEW, 1, y -> y.setTimes(61, 100));
        Edge.saves(Edge.NEW, 1, y -> y.setTimes(59, 100));
        Edge.saves(Edge.NEW, 1, y -> y.setTimes(60, 99));
        Edge.saves(Edge.NEW, 1, y -> y.setTimes(60, 101));
        Edge.saves(Edge.NEW, 1, y -> y.setTimes(100, 60));
        Edge.Steps set = y -> y.setTimes(500, 0);
        Edge.saves(set, 0, y -> y.setTimes(500, 0));
        Edge.saves(set, 1, y -> y.setTimes(60, 100));

        Edge.says(26, "INVALID_ARGUMENT if an argument is out of range.");
        for (int lease : Edge.outside(1, 500)) {
            Edge.refused(Edge.NEW, -1, y -> y.setTimes(lease, 100));
            Edge.refused(OVERLAP, -1, y -> y.setTimes(lease, 0));
        }
        for (int overlap : Edge.outside(0, 500)) {
            Edge.refused(Edge.NEW, -1, y -> y.setTimes(60, overlap));
            Edge.refused(OVERLAP, -1, y -> y.setTimes(1, overlap));
        }
    }

    private static void promise27() {
        Edge.says(27, "Returns the earliest time at which a lease ends or an overlap ends.");
        // Only new leases, of which the later host has the earlier one; only an old lease; only an overlap.
        Edge.asked(Edge.busy(TWO, x -> x.request(0), x -> x.setTimes(59, 100), x -> x.request(15)), 59, x -> x.nextEvent());
        Edge.asked(Edge.busy(TWO, x -> x.request(15), x -> x.setTimes(61, 100), x -> x.request(0)), 60, x -> x.nextEvent());
        Edge.asked(OVERLAP, 60, x -> x.nextEvent());
        Edge.asked(Edge.from(TWO, x -> x.renumber(0, 14)), 100, x -> x.nextEvent());
        Edge.asked(Edge.from(TWO, x -> x.renumber(0, 14), x -> x.setTimes(1, 99), x -> x.renumber(1, 14)), 99,
                x -> x.nextEvent());
        Edge.asked(Edge.from(TWO, x -> x.renumber(1, 14), x -> x.setTimes(1, 99), x -> x.renumber(0, 14)), 99,
                x -> x.nextEvent());
        // An old lease is later than the overlap that cuts it.
        Edge.asked(Edge.from(TWO, x -> x.setTimes(60, 20), x -> x.request(0), x -> x.renumber(0, 14)), 20,
                x -> x.nextEvent());
        Edge.asked(Edge.from(TWO, x -> x.request(0), x -> x.renumber(0, 14), x -> x.setTimes(1, 100), x -> x.request(0)), 1,
                x -> x.nextEvent());

        Edge.says(27, "Returns the time;");
        Edge.Steps late = x -> {
            at(9999).on(x);
            x.addPool(0, 12);
            x.assign(0, 14);
            x.setTimes(500, 500);
            x.renumber(0, 14);
        };
        Edge.asked(late, 10499, x -> x.nextEvent());

        Edge.says(27, "NONE if there are no leases and no overlaps.");
        Edge.asked(Edge.NEW, -9, x -> x.nextEvent());
        Edge.asked(Edge.busy(TWO), -9, x -> x.nextEvent());
        Edge.asked(Edge.from(TWO, x -> x.request(0), x -> x.pass(60)), -9, x -> x.nextEvent());
        Edge.asked(Edge.from(TWO, x -> x.request(0), x -> x.removeHost(0)), -9, x -> x.nextEvent());
        Edge.asked(Edge.from(TWO, x -> x.renumber(0, 14), x -> x.pass(100)), -9, x -> x.nextEvent());
        Edge.asked(Edge.from(TWO, x -> x.renumber(0, 14), x -> x.release(0)), -9, x -> x.nextEvent());
        Edge.asked(Edge.from(TWO, x -> x.setTimes(60, 0), x -> x.request(0), x -> x.renumber(0, 14)), -9,
                x -> x.nextEvent());
    }

    private static void promise28() {
        Edge.says(28, "Returns a number.");
        Edge.Steps some = Edge.busy("pool 0 12;pool 32 14;net 0 14;net 1 14;host 0 0;host 1 0;host 2 1;",
                x -> x.setTimes(60, 0), x -> x.request(0), x -> x.renumber(0, 14), x -> x.setTimes(60, 100),
                x -> x.request(0), x -> x.renumber(1, 15), x -> x.request(2), x -> x.pass(7));
        int[] want = {7, 2, 2, 1, 3, 2, 1, 16 - 10 + 4, 6};
        for (int what = 0; what <= 8; what++) {
            int part = what;
            Edge.asked(some, want[what], x -> x.count(part));
        }

        Edge.says(28, "Returns the number;");
        Edge.asked(some, 7, x -> x.count(0));
        Edge.asked(some, 6, x -> x.count(8));

        Edge.says(28, "INVALID_ARGUMENT if what is out of range.");
        for (int what : Edge.outside(0, 8)) {
            Edge.refused(Edge.NEW, -1, x -> x.count(what));
            Edge.refused(some, -1, x -> x.count(what));
        }
    }

    private static void promise28Each() {
        Edge.says(28, "`what`: 0 the time, 1 pools, 2 networks with a block, 3 networks with an old block, 4 hosts that belong to a "
                + "network, 5 leases, 6 leases that were cut, 7 free addresses, 8 states that are kept for undo()");
        for (int what = 0; what <= 8; what++) {
            int part = what;
            Edge.asked(Edge.NEW, 0, x -> x.count(part));
        }
        Edge.asked(at(9999), 9999, x -> x.count(0));
        Edge.Steps great = Edge.from("pool 0 4;pool 4096 4;pool 8192 4;pool 12288 4;");
        Edge.asked(great, 4, x -> x.count(1));
        Edge.asked(great, 16384, x -> x.count(7));
        // All 12 networks with old blocks, all 16 hosts with two leases, all leases cut, six states.
        PoolRenumberer x = new PoolRenumberer();
        Edge.from("pool 0 8;").on(x);
        for (int network = 0; network <= 11; network++) {
            Edge.is(x.count(2), network);
            x.assign(network, 13);
        }
        for (int host = 0; host <= 15; host++) {
            Edge.is(x.count(4), host);
            x.addHost(host, host % 12, 0);
            x.request(host);
        }
        x.setTimes(500, 30);
        for (int network = 0; network <= 11; network++) {
            Edge.is(x.count(3), network);
            x.renumber(network, 13);
        }
        for (int host = 0; host <= 15; host++) {
            Edge.is(x.count(5), 16 + host);
            x.request(host);
        }
        int[] want = {0, 1, 12, 12, 16, 32, 0, 256 - 24 * 8, 6};
        for (int what = 0; what <= 8; what++) {
            Edge.is(x.count(what), want[what]);
        }
        // The old leases end at 60, so all 16 are cut at 30; the new ones are valid until 500.
        Edge.is(x.pass(29), 0);
        Edge.is(x.pass(1), 16);
        int[] then = {30, 1, 12, 0, 16, 16, 16, 256 - 12 * 8, 6};
        for (int what = 0; what <= 8; what++) {
            Edge.is(x.count(what), then[what]);
        }
        // Leases that ended or whose host was removed were not cut.
        x.removeHost(0);
        Edge.is(x.count(6), 16);
        Edge.is(x.pass(470), 15);
        Edge.is(x.count(6), 16);
    }
}
