/** Promises 20 to 28. */
public final class HostsTest {
    public static void main(String[] args) {
        promise20();
        promise21();
        promise22New();
        promise22Old();
        promise22Distance();
        promise22Capacity();
        promise23();
        promise24();
        promise25();
        promise25Limit();
        promise26();
        promise27();
        promise28();
        Due.end();
    }

    private static void promise20() {
        PoolRenumberer x = Due.with("pool 0 10;net 0 12;net 1 12;");
        Due.is("host -1", x.addHost(-1, 0, 0), -1);
        Due.is("host 16", x.addHost(16, 0, 0), -1);
        Due.is("network -1", x.addHost(0, -1, 0), -1);
        Due.is("network 12", x.addHost(0, 12, 0), -1);
        Due.is("sticky -1", x.addHost(0, 0, -1), -1);
        Due.is("sticky 2", x.addHost(0, 0, 2), -1);
        Due.is("no block", x.addHost(0, 2, 0), -2);
        Due.is("no state", x.count(8), 1);
        Due.is("first", x.addHost(0, 0, 1), 1);
        Due.is("second", x.addHost(15, 0, 0), 2);
        Due.is("of another", x.addHost(7, 1, 0), 1);
        Due.is("again", x.addHost(0, 1, 0), -2);
        Due.is("again, wrong", x.addHost(0, 1, 2), -1);
        Due.is("sticky", x.host(0, 1), 1);
        Due.is("not sticky", x.host(15, 1), 0);
        x.removeHost(0);
        Due.is("after removal", x.addHost(0, 1, 0), 2);
        Due.is("no more sticky", x.host(0, 1), 0);
        Due.is("no lease", x.host(0, 2), -9);
    }

    private static void promise21() {
        PoolRenumberer x = Due.with("pool 0 10;net 0 12;host 0 0;host 1 0;");
        Due.is("-1", x.removeHost(-1), -1);
        Due.is("16", x.removeHost(16), -1);
        Due.is("no network", x.removeHost(2), -2);
        Due.is("no lease", x.removeHost(1), 0);
        x.request(0);
        x.renumber(0, 12);
        x.request(0);
        Due.is("leases", x.count(5), 2);
        Due.is("two leases", x.removeHost(0), 2);
        Due.is("none left", x.count(5), 0);
        Due.is("not cut", x.count(6), 0);
        Due.is("the address", x.leaseOf(1), -9);
        Due.is("network", x.host(0, 0), -9);
        Due.is("undo", x.undo(), 5);
        Due.is("leases", x.count(5), 2);
    }

    private static void promise22New() {
        PoolRenumberer x = Due.with("pool 0 10;net 0 14;net 1 16;net 2 15;host 0 0;host 1 0;host 2 0;host 3 1;host 4 2;host 5 2;");
        Due.is("-1", x.request(-1), -1);
        Due.is("16", x.request(16), -1);
        Due.is("no network", x.request(6), -2);
        Due.is("second of a 14", x.request(1), 1);
        Due.is("third of a 14", x.request(2), 2);
        Due.is("no more", x.request(0), -3);
        Due.is("a 16", x.request(3), 4);
        Due.is("a 15", x.request(4), 6);
        Due.is("a 15", x.request(5), 7);
        x.pass(5);
        Due.is("renewed", x.request(2), 2);
        Due.is("until", x.host(2, 3), 65);
        Due.is("not renewed", x.host(1, 3), 60);
        x.removeHost(1);
        Due.is("the smallest again", x.request(0), 1);
        x.setTimes(10, 100);
        Due.is("renewed for a shorter time", x.request(2), 2);
        Due.is("until", x.host(2, 3), 15);
    }

    private static void promise22Old() {
        PoolRenumberer x = Due.with("pool 0 10;net 0 12;host 0 0 sticky;host 1 0;host 2 0 sticky;");
        x.setTimes(60, 50);
        x.request(0);
        x.request(1);
        x.renumber(0, 12);
        x.pass(5);
        Due.is("the sticky one keeps its old one", x.request(0), 1);
        Due.is("until the overlap ends", x.host(0, 5), 50);
        Due.is("no new one", x.host(0, 2), -9);
        x.setTimes(10, 50);
        Due.is("renewed again", x.request(0), 1);
        Due.is("until", x.host(0, 5), 15);
        Due.is("the other one gets a new one", x.request(1), 18);
        Due.is("until", x.host(1, 3), 15);
        Due.is("the old one stays", x.host(1, 5), 60);
        Due.is("a sticky one without a lease", x.request(2), 17);
        x.pass(10);
        Due.is("sticky without an old one", x.request(0), 17);
        Due.is("the new one", x.host(0, 2), 17);
        Due.is("the same distance", x.request(1), 18);
    }

    private static void promise22Distance() {
        PoolRenumberer x = Due.with("pool 0 10;net 0 12;host 0 0;host 1 0;host 2 0;host 3 0;");
        for (int host = 0; host < 4; host++) {
            x.request(host);
        }
        x.removeHost(0);
        x.addHost(0, 0, 0);
        x.renumber(0, 12);
        Due.is("no old lease: the smallest", x.request(0), 17);
        Due.is("the same distance", x.request(3), 20);
        Due.is("the same distance", x.request(1), 18);
        x.removeHost(0);
        x.addHost(0, 0, 0);
        x.removeHost(3);
        x.addHost(3, 0, 0);
        Due.is("the smallest", x.request(3), 17);
        Due.is("the next one", x.request(0), 20 - 1);
        Due.is("its place is taken", x.request(2), 20);
        x = Due.with("pool 0 10;net 0 12;host 0 0;host 1 0;host 2 0;host 3 0;");
        for (int host = 0; host < 4; host++) {
            x.request(host);
        }
        x.renumber(0, 14);
        Due.is("the last one cannot be leased", x.request(2), 17);
        Due.is("not in the block", x.request(3), 18);
        Due.is("no more", x.request(0), -3);
        x = Due.with("pool 0 10;net 0 14;host 0 0;host 1 0;");
        x.request(0);
        x.request(1);
        x.renumber(0, 15);
        Due.is("outside", x.request(1), 4);
        Due.is("the same distance", x.request(0), 5);
        x = Due.with("pool 0 10;net 1 12;net 0 12;host 0 0;host 1 0;");
        x.request(0);
        Due.is("in the second block", x.request(1), 18);
        Due.is("to the third block", x.renumber(0, 12), 32);
        Due.is("the same distance", x.request(1), 34);
    }

    private static void promise22Capacity() {
        PoolRenumberer x = Due.with("pool 0 10;net 0 13;host 0 0;host 1 0;host 2 0;host 3 0;host 4 0;host 5 0;host 6 0;");
        for (int host = 0; host < 6; host++) {
            Due.is("host " + host, x.request(host), host + 1);
        }
        Due.is("states", x.count(8), 6);
        x.undo();
        Due.is("again", x.request(6), 6);
        Due.is("no more", x.request(5), -3);
        Due.is("nothing changed", x.host(5, 2), -9);
    }

    private static void promise23() {
        PoolRenumberer x = Due.with("pool 0 10;net 3 12;host 0 3;host 15 3 sticky;");
        Due.is("-1", x.host(-1, 0), -1);
        Due.is("16", x.host(16, 0), -1);
        Due.is("what -1", x.host(0, -1), -1);
        Due.is("what 6", x.host(0, 6), -1);
        Due.is("what 6 without a network", x.host(1, 6), -1);
        x.request(0);
        x.renumber(3, 12);
        x.pass(1);
        x.request(0);
        int[] want = {3, 0, 17, 61, 1, 60};
        int[] other = {3, 1, -9, -9, -9, -9};
        for (int what = 0; what <= 5; what++) {
            Due.is("host(0, " + what + ")", x.host(0, what), want[what]);
            Due.is("host(15, " + what + ")", x.host(15, what), other[what]);
            Due.is("host(1, " + what + ")", x.host(1, what), -9);
        }
        x.pass(59);
        Due.is("the old one ended", x.host(0, 4), -9);
        Due.is("its time too", x.host(0, 5), -9);
        Due.is("the new one did not", x.host(0, 3), 61);
    }

    private static void promise24() {
        PoolRenumberer x = Due.with("pool 0 10;net 0 12;host 4 0;host 5 0;");
        Due.is("-1", x.leaseOf(-1), -1);
        Due.is("65536", x.leaseOf(65536), -1);
        Due.is("none", x.leaseOf(0), -9);
        Due.is("none", x.leaseOf(65535), -9);
        x.request(5);
        x.request(4);
        x.renumber(0, 12);
        x.request(5);
        Due.is("old", x.leaseOf(1), 5);
        Due.is("old", x.leaseOf(2), 4);
        Due.is("new", x.leaseOf(17), 5);
        Due.is("none", x.leaseOf(18), -9);
    }

    private static void promise25() {
        PoolRenumberer x = Due.with("pool 0 10;net 0 12;net 1 12;host 0 0;host 1 0;host 2 1;");
        Due.is("0", x.pass(0), -1);
        Due.is("1001", x.pass(1001), -1);
        Due.is("no state", x.count(8), 1);
        x.setTimes(30, 30);
        x.request(0);
        x.setTimes(31, 30);
        x.request(1);
        x.renumber(0, 12);
        x.request(2);
        Due.is("29", x.pass(29), 0);
        Due.is("one ends, one is cut, at the same time", x.pass(1), 2);
        Due.is("cut", x.count(6), 1);
        Due.is("the overlap ended", x.count(3), 0);
        Due.is("the third one", x.count(5), 1);
        Due.is("the third one ends", x.pass(1), 1);
        Due.is("cut", x.count(6), 1);
        Due.is("time", x.count(0), 31);
        Due.is("undo", x.undo(), 5);
        Due.is("undo", x.undo(), 4);
        Due.is("time", x.count(0), 29);
        Due.is("cut", x.count(6), 0);
        Due.is("old blocks", x.count(3), 1);
        Due.is("new", x.pass(1000), 3);
        Due.is("all but one ended by themselves? no: all did", x.count(6), 0);
    }

    private static void promise25Limit() {
        PoolRenumberer x = new PoolRenumberer();
        for (int turn = 1; turn <= 9; turn++) {
            Due.is("pass", x.pass(1000), 0);
        }
        Due.is("10000", x.pass(1000), -3);
        Due.is("10001, wrong", x.pass(1001), -1);
        Due.is("9999", x.pass(999), 0);
        Due.is("10000", x.pass(1), -3);
        Due.is("time", x.count(0), 9999);
        x.addPool(0, 10);
        x.assign(0, 12);
        x.addHost(0, 0, 0);
        x.setTimes(500, 500);
        x.request(0);
        x.renumber(0, 12);
        Due.is("times may be above", x.network(0, 4), 10499);
        Due.is("times may be above", x.host(0, 5), 10499);
    }

    private static void promise26() {
        PoolRenumberer x = Due.with("pool 0 10;net 0 12;host 0 0;");
        Due.is("lease 0", x.setTimes(0, 100), -1);
        Due.is("lease 501", x.setTimes(501, 100), -1);
        Due.is("overlap -1", x.setTimes(60, -1), -1);
        Due.is("overlap 501", x.setTimes(60, 501), -1);
        Due.is("no state", x.count(8), 1);
        Due.is("the same", x.setTimes(60, 100), 0);
        Due.is("the same saves a state too", x.count(8), 2);
        Due.is("lease", x.setTimes(500, 100), 1);
        Due.is("overlap", x.setTimes(500, 500), 1);
        x.request(0);
        x.renumber(0, 12);
        Due.is("least", x.setTimes(1, 0), 1);
        Due.is("overlaps stay", x.network(0, 4), 500);
        Due.is("leases stay", x.host(0, 5), 500);
        Due.is("a new one", x.host(0, 2), -9);
        x.request(0);
        Due.is("a new one", x.host(0, 3), 1);
        x.pass(1);
        x.undo();
        x.request(0);
        x.undo();
        Due.is("undo restores the time of a new lease", x.host(0, 3), 1);
        Due.is("undo restores the time of an old lease", x.host(0, 5), 500);
        Due.is("undo restores the overlap", x.network(0, 4), 500);
    }

    private static void promise27() {
        PoolRenumberer x = Due.with("pool 0 10;net 0 12;net 1 12;host 0 0;host 1 1;");
        Due.is("none", x.nextEvent(), -9);
        x.renumber(0, 14);
        Due.is("an overlap", x.nextEvent(), 100);
        x.request(1);
        Due.is("a lease", x.nextEvent(), 60);
        x.setTimes(200, 10);
        x.request(1);
        Due.is("the overlap again", x.nextEvent(), 100);
        x.renumber(1, 14);
        Due.is("the other overlap", x.nextEvent(), 10);
        x.setTimes(5, 10);
        x.pass(1);
        x.request(1);
        Due.is("a new lease", x.nextEvent(), 6);
        x.pass(9);
        Due.is("the first overlap is left", x.nextEvent(), 100);
        x = Due.with("pool 0 10;net 0 12;host 0 0;");
        x.request(0);
        x.renumber(0, 12);
        Due.is("an old lease", x.nextEvent(), 60);
    }

    private static void promise28() {
        PoolRenumberer x = Due.with("pool 0 10;pool 64 12;net 0 12;net 1 12;host 0 0;host 1 0;host 2 1;");
        x.setTimes(60, 0);
        x.request(0);
        x.renumber(0, 12);
        x.setTimes(60, 100);
        x.request(0);
        x.renumber(0, 12);
        x.request(0);
        x.pass(7);
        int[] want = {7, 2, 2, 1, 3, 2, 1, 64 - 48 + 16, 6};
        for (int what = 0; what <= 8; what++) {
            Due.is("count(" + what + ")", x.count(what), want[what]);
        }
        Due.is("-1", x.count(-1), -1);
        Due.is("9", x.count(9), -1);
        Due.is("least", x.count(Integer.MIN_VALUE), -1);
    }
}
