/** Promises 13 to 19. */
public final class NetworksTest {
    public static void main(String[] args) {
        promise13();
        promise14();
        promise15Greater();
        promise15Smaller();
        promise15Leases();
        promise16();
        promise16WithoutOverlap();
        promise17();
        promise17Order();
        promise17WithoutOverlap();
        promise18();
        promise19();
        Due.end();
    }

    private static void promise13() {
        PoolRenumberer x = Due.with("pool 4096 4;");
        Due.is("network -1", x.assign(-1, 10), -1);
        Due.is("network 12", x.assign(12, 10), -1);
        Due.is("length 4", x.assign(0, 4), -1);
        Due.is("length 17", x.assign(0, 17), -1);
        Due.is("no state", x.count(8), 1);
        Due.is("5", x.assign(0, 5), 4096);
        Due.is("it has a block", x.assign(0, 5), -2);
        Due.is("it has a block, no room", x.assign(0, 5), -2);
        Due.is("16", x.assign(11, 16), 6144);
        Due.is("no room", x.assign(1, 5), -3);
        Due.is("it has a block, wrong length", x.assign(0, 4), -1);
        Due.is("states", x.count(8), 3);
        Due.is("blocks", x.count(2), 2);
        x = Due.with("pool 0 14;pool 4 14;");
        Due.is("a block lies in one pool", x.assign(0, 13), -3);
        Due.is("a whole pool", x.assign(0, 14), 0);
        Due.is("the other pool", x.assign(1, 14), 4);
    }

    private static void promise14() {
        PoolRenumberer x = Due.with("pool 0 10;net 0 12;net 1 12;host 3 0;host 4 0;host 5 1;");
        Due.is("-1", x.release(-1), -1);
        Due.is("12", x.release(12), -1);
        Due.is("no block", x.release(2), -2);
        x.request(3);
        Due.is("a lease", x.release(0), -2);
        x.renumber(0, 12);
        Due.is("an old lease", x.release(0), -2);
        x.pass(60);
        Due.is("two blocks", x.count(7), 16);
        Due.is("release", x.release(0), 2);
        Due.is("all blocks are free", x.count(7), 48);
        Due.is("no old block", x.network(0, 2), -9);
        Due.is("host 3", x.host(3, 0), -9);
        Due.is("host 4", x.host(4, 1), -9);
        Due.is("host 5", x.host(5, 0), 1);
        Due.is("hosts", x.count(4), 1);
        Due.is("again", x.release(0), -2);
        Due.is("nextEvent", x.nextEvent(), -9);
    }

    private static void promise15Greater() {
        PoolRenumberer x = Due.with("pool 0 11;pool 32 11;net 0 13;net 1 13;net 2 12;");
        Due.is("network -1", x.resize(-1, 10), -1);
        Due.is("network 12", x.resize(12, 10), -1);
        Due.is("length 4", x.resize(0, 4), -1);
        Due.is("length 17", x.resize(0, 17), -1);
        Due.is("no block", x.resize(5, 10), -2);
        Due.is("the same", x.resize(0, 13), -2);
        Due.is("not free", x.resize(1, 12), -2);
        x.release(0);
        Due.is("the beginning moves", x.resize(1, 12), 0);
        Due.is("not free", x.resize(1, 11), -2);
        x.release(2);
        Due.is("the pool", x.resize(1, 11), 0);
        Due.is("outside of the pool", x.resize(1, 10), -2);
        x = Due.with("pool 0 11;net 0 13;");
        x.renumber(0, 14);
        Due.is("the new one", x.network(0, 0), 8);
        Due.is("beside the old block", x.resize(0, 13), 8);
        Due.is("the own old block is not free", x.resize(0, 12), -2);
        x.pass(100);
        Due.is("now it is", x.resize(0, 12), 0);
        Due.is("not far out of the pool", x.resize(0, 5), -2);
    }

    private static void promise15Smaller() {
        PoolRenumberer x = Due.with("pool 0 10;net 0 12;net 1 12;");
        Due.is("smaller", x.resize(1, 16), 16);
        Due.is("its length", x.network(1, 1), 16);
        Due.is("free", x.count(7), 47);
        Due.is("states", x.count(8), 2);
        Due.is("two steps up", x.resize(1, 14), 16);
        Due.is("undo", x.undo(), 2);
        Due.is("its length", x.network(1, 1), 16);
    }

    private static void promise15Leases() {
        PoolRenumberer x = Due.with("pool 0 10;net 0 15;host 0 0;host 1 0;");
        Due.is("all can be leased", x.request(0), 0);
        Due.is("all can be leased", x.request(1), 1);
        Due.is("the first one cannot be leased in a 14", x.resize(0, 14), -2);
        x.removeHost(0);
        Due.is("the second one can", x.resize(0, 14), 0);
        Due.is("the last one of a 15", x.resize(0, 15), 0);
        Due.is("not in a 16", x.resize(0, 16), -2);
        x = Due.with("pool 0 10;net 0 13;host 0 0;host 1 0;host 2 0;");
        x.request(0);
        x.request(1);
        x.request(2);
        Due.is("the last one", x.resize(0, 14), -2);
        x.removeHost(2);
        Due.is("1 and 2", x.resize(0, 14), 0);
        x.renumber(0, 14);
        Due.is("old leases do not matter", x.resize(0, 16), 4);
        Due.is("an address", x.addHost(3, 0, 0), 3);
        Due.is("the only address", x.request(3), 4);
        Due.is("the first one of a 14", x.resize(0, 14), -2);
        Due.is("but not of a 15", x.resize(0, 15), 4);
    }

    private static void promise16() {
        PoolRenumberer x = Due.with("pool 0 10;net 0 12;host 0 0;host 1 0;host 2 0 sticky;");
        Due.is("network -1", x.renumber(-1, 12), -1);
        Due.is("network 12", x.renumber(12, 12), -1);
        Due.is("length 4", x.renumber(0, 4), -1);
        Due.is("length 17", x.renumber(0, 17), -1);
        Due.is("no block", x.renumber(1, 12), -2);
        Due.is("no room", x.renumber(0, 10), -3);
        x.request(0);
        x.pass(10);
        x.request(2);
        Due.is("renumber", x.renumber(0, 11), 32);
        Due.is("new length", x.network(0, 1), 11);
        Due.is("old begin", x.network(0, 2), 0);
        Due.is("old length", x.network(0, 3), 12);
        Due.is("overlap ends", x.network(0, 4), 110);
        Due.is("no new lease", x.host(0, 2), -9);
        Due.is("old lease", x.host(0, 4), 1);
        Due.is("old lease's time stays", x.host(0, 5), 60);
        Due.is("old lease", x.host(2, 4), 2);
        Due.is("an old one", x.renumber(0, 16), -2);
        Due.is("an old one, wrong length", x.renumber(0, 4), -1);
        Due.is("cut", x.count(6), 0);
        x.setTimes(500, 20);
        Due.is("overlaps stay", x.network(0, 4), 110);
        x.request(0);
        Due.is("pass", x.pass(100), 2);
        Due.is("nothing cut, the leases ended before", x.count(6), 0);
        Due.is("given up", x.count(3), 0);
        x.renumber(0, 11);
        Due.is("to the other half", x.network(0, 0), 0);
        Due.is("the lease is cut", x.pass(20), 1);
        Due.is("cut", x.count(6), 1);
    }

    private static void promise16WithoutOverlap() {
        PoolRenumberer x = Due.with("pool 0 10;net 0 12;host 0 0;host 1 0 sticky;");
        x.request(0);
        x.request(1);
        x.setTimes(60, 0);
        Due.is("renumber", x.renumber(0, 12), 16);
        Due.is("no old block", x.network(0, 2), -9);
        Due.is("no overlap", x.network(0, 4), -9);
        Due.is("cut", x.count(6), 2);
        Due.is("leases", x.count(5), 0);
        Due.is("free", x.count(7), 48);
        Due.is("again", x.renumber(0, 12), 0);
        Due.is("none cut", x.count(6), 2);
        Due.is("undo", x.undo(), 5);
        Due.is("undo", x.undo(), 4);
        Due.is("not cut", x.count(6), 0);
        Due.is("leases", x.count(5), 2);
    }

    private static void promise17() {
        PoolRenumberer x = Due.with("pool 0 10;net 0 12;net 1 12;net 2 12;net 3 13;host 0 3;");
        Due.is("0", x.wave(0), -1);
        Due.is("13", x.wave(13), -1);
        Due.is("packed", x.wave(12), -2);
        Due.is("no state", x.count(8), 1);
        x.release(0);
        Due.is("two fit", x.wave(12), 1);
        Due.is("the highest", x.network(3, 0), 0);
        Due.is("its old block", x.network(3, 2), 48);
        Due.is("network 2 would need 16", x.network(2, 0), 32);
        Due.is("one state", x.count(8), 3);
        Due.is("with an old one", x.wave(12), -2);
        x.pass(100);
        Due.is("no smaller beginning", x.wave(12), -2);
        Due.is("a new object", new PoolRenumberer().wave(1), -2);
        x = Due.with("pool 0 10;net 1 12;net 0 12;");
        x.release(1);
        Due.is("network 0 alone", x.wave(1), 1);
        Due.is("network 0 alone", x.network(0, 0), 0);
    }

    private static void promise17Order() {
        PoolRenumberer x = Due.with("pool 0 10;net 5 11;net 2 13;net 1 13;net 4 13;");
        x.release(5);
        Due.is("two", x.wave(2), 2);
        Due.is("the highest first", x.network(4, 0), 0);
        Due.is("then the second", x.network(1, 0), 8);
        Due.is("not the third", x.network(2, 2), -9);
        Due.is("then the third", x.wave(2), 1);
        Due.is("the third", x.network(2, 0), 16);
        Due.is("undo of a wave", x.undo(), 3);
        Due.is("undo of a wave", x.undo(), 2);
        Due.is("as before", x.network(4, 0), 48);
        x.setPolicy(3);
        Due.is("by top all would go up to 56", x.wave(12), -2);
        x.setPolicy(2);
        Due.is("by worst they go down", x.wave(1), 1);
        Due.is("to the greatest free block", x.network(4, 0), 0);
    }

    private static void promise17WithoutOverlap() {
        PoolRenumberer x = Due.with("pool 0 10;net 0 12;net 1 12;net 2 12;net 3 12;host 0 3;host 1 2;");
        x.request(0);
        x.request(1);
        x.release(0);
        x.setTimes(60, 0);
        Due.is("each network once", x.wave(12), 1);
        Due.is("3 goes to 0", x.network(3, 0), 0);
        Due.is("cut", x.count(6), 1);
        Due.is("2 stays, 48 is above", x.network(2, 0), 32);
    }

    private static void promise18() {
        PoolRenumberer x = Due.with("pool 64 10;net 0 12;host 0 0;host 9 0;");
        Due.is("-1", x.network(-1, 0), -1);
        Due.is("12", x.network(12, 0), -1);
        Due.is("what -1", x.network(0, -1), -1);
        Due.is("what 6", x.network(0, 6), -1);
        Due.is("what 6 without a block", x.network(1, 6), -1);
        int[] want = {64, 12, -9, -9, -9, 2};
        int[] without = {-9, -9, -9, -9, -9, 0};
        int[] both = {80, 13, 64, 12, 100, 2};
        for (int what = 0; what <= 5; what++) {
            Due.is("network(0, " + what + ")", x.network(0, what), want[what]);
            Due.is("network(11, " + what + ")", x.network(11, what), without[what]);
        }
        x.renumber(0, 13);
        for (int what = 0; what <= 5; what++) {
            Due.is("network(0, " + what + ") with an old block", x.network(0, what), both[what]);
        }
    }

    private static void promise19() {
        PoolRenumberer x = Due.with("pool 64 10;net 7 12;net 0 16;");
        x.renumber(7, 13);
        Due.is("-1", x.owner(-1), -1);
        Due.is("65536", x.owner(65536), -1);
        Due.is("65535", x.owner(65535), -9);
        Due.is("0", x.owner(0), -9);
        Due.is("before the old block", x.owner(63), -9);
        Due.is("the first of the old block", x.owner(64), 7);
        Due.is("the last of the old block", x.owner(79), 7);
        Due.is("the one of network 0", x.owner(80), 0);
        Due.is("free", x.owner(81), -9);
        Due.is("the first of the current block", x.owner(88), 7);
        Due.is("the last of the current block", x.owner(95), 7);
        Due.is("behind it", x.owner(96), -9);
        x.pass(100);
        Due.is("the old block is given up", x.owner(64), -9);
        Due.is("undo", x.undo(), 2);
        Due.is("the old block is back", x.owner(64), 7);
    }
}
