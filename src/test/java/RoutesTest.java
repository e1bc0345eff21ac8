/** Promises 29 to 35. */
public final class RoutesTest {
    public static void main(String[] args) {
        promise29();
        promise30();
        promise31();
        promise32();
        promise33();
        promise34();
        promise35();
        promise35SavesBy();
        Due.end();
    }

    private static void promise29() {
        PoolRenumberer x = new PoolRenumberer();
        Due.is("none", x.routeCount(), 0);
        x = Due.with("pool 0 10;net 0 12;net 1 12;");
        Due.is("two networks are one route", x.routeCount(), 1);
        x.assign(2, 13);
        Due.is("and one more", x.routeCount(), 2);
        x.release(0);
        Due.is("two that touch but are no block", x.routeCount(), 2);
        x = Due.with("pool 0 11;pool 32 11;net 0 11;net 1 11;");
        Due.is("across pools", x.routeCount(), 1);
        x = Due.with("pool 32 11;pool 64 11;net 0 11;net 1 11;");
        Due.is("no buddies", x.routeCount(), 2);
        x = Due.with("pool 0 11;net 0 12;");
        x.renumber(0, 12);
        Due.is("an old and a current block", x.routeCount(), 1);
        x.pass(100);
        Due.is("the current block", x.routeCount(), 1);
        Due.is("the current block", x.route(0, 0), 16);
    }

    private static void promise30() {
        PoolRenumberer x = Due.with("pool 64 10;pool 0 10;net 0 10;net 1 12;net 2 12;net 3 13;");
        Due.is("routes", x.routeCount(), 3);
        int[] begins = {0, 64, 96};
        int[] lengths = {10, 11, 13};
        for (int route = 0; route < begins.length; route++) {
            Due.is("begin " + route, x.route(route, 0), begins[route]);
            Due.is("length " + route, x.route(route, 1), lengths[route]);
        }
        Due.is("route -1", x.route(-1, 0), -1);
        Due.is("part -1", x.route(0, -1), -1);
        Due.is("part 2", x.route(0, 2), -1);
        Due.is("part 2 of none", x.route(9, 2), -1);
        Due.is("none", x.route(3, 0), -9);
        Due.is("none", x.route(Integer.MAX_VALUE, 1), -9);
        x.release(0);
        Due.is("after release", x.route(0, 0), 64);
        Due.is("after release", x.route(0, 1), 11);
        Due.is("after release", x.route(1, 0), 96);
        Due.is("after release", x.route(1, 1), 13);
        Due.is("none", x.route(2, 0), -9);
        x = Due.with("pool 0 4;pool 4096 4;pool 8192 4;pool 12288 4;net 0 5;net 1 5;net 2 5;net 3 5;net 4 5;net 5 5;net 6 5;net 7 5;");
        Due.is("all of four pools", x.routeCount(), 1);
        Due.is("its length", x.route(0, 1), 2);
        Due.is("its begin", x.route(0, 0), 0);
    }

    private static void promise31() {
        PoolRenumberer x = Due.with("pool 0 10;net 0 12;net 1 12;net 2 14;");
        Due.is("-1", x.fragmentationAfter(-1), -1);
        Due.is("12", x.fragmentationAfter(12), -1);
        Due.is("no block", x.fragmentationAfter(3), -2);
        // Free after the move of network 0 to 48: 0..15, 36..47, so 16 of 28.
        Due.is("network 0", x.fragmentationAfter(0), 1000 - 16000 / 28);
        // Network 2 to 36: free are 32..35, 40..47, 48..63.
        Due.is("network 2", x.fragmentationAfter(2), 1000 - 16000 / 28);
        Due.is("nothing changed", x.network(0, 0), 0);
        Due.is("nothing changed", x.network(0, 2), -9);
        Due.is("no state", x.count(8), 1);
        x.assign(3, 12);
        Due.is("cannot be placed", x.fragmentationAfter(0), -9);
        x.renumber(2, 14);
        Due.is("an old one", x.fragmentationAfter(2), -2);
    }

    private static PoolRenumberer scattered() {
        PoolRenumberer x = Due.with("pool 0 10;net 0 13;net 1 13;net 2 13;net 3 13;net 4 13;net 5 13;net 6 13;net 7 13;");
        x.release(0);
        x.release(2);
        x.release(4);
        x.release(7);
        return x;
    }

    private static void promise32() {
        PoolRenumberer x = scattered();
        // Free are 0..7, 16..23, 32..39, 56..63; assigned 8 (1), 24 (3), 40 (5), 48 (6).
        Due.is("index", x.fragmentation(), 750);
        Due.is("1 frees 0..15? no, it goes to 0", x.fragmentationAfter(1), 750);
        Due.is("3 frees 16..31", x.fragmentationAfter(3), 500);
        Due.is("5 frees 32..47", x.fragmentationAfter(5), 500);
        Due.is("6 frees 48..63", x.fragmentationAfter(6), 500);
        Due.is("of several the smallest number", x.bestMove(), 3);
        x.renumber(3, 13);
        Due.is("with its old one it is no move", x.bestMove(), 5);
        x = new PoolRenumberer();
        Due.is("nothing", x.bestMove(), -9);
        x = Due.with("pool 0 10;net 0 12;");
        Due.is("no smaller index", x.bestMove(), -9);
    }

    /** Assigned are 0 (0), 16 (1), 32 (2), 48 (3), each with a free buddy; by top all go to 56 at first. */
    private static PoolRenumberer twoMoves() {
        PoolRenumberer x = Due.with("pool 0 10;net 0 13;net 8 13;net 1 13;net 9 13;net 2 13;net 10 13;net 3 13;net 11 13;");
        for (int network = 8; network <= 11; network++) {
            x.release(network);
        }
        x.setPolicy(3);
        return x;
    }

    private static void promise33() {
        PoolRenumberer x = twoMoves();
        Due.is("0", x.makePlan(0), -1);
        Due.is("13", x.makePlan(13), -1);
        Due.is("one", x.makePlan(1), 1);
        Due.is("it", x.plan(0, 0), 0);
        Due.is("not more", x.plan(1, 0), -9);
        Due.is("all", x.makePlan(12), 2);
        Due.is("nothing moved", x.network(0, 0), 0);
        Due.is("no state", x.count(8), 6);
        Due.is("a wrong one", x.makePlan(13), -1);
        Due.is("keeps the plan", x.plan(1, 0), 1);
        x.undo();
        Due.is("undo keeps the plan", x.plan(1, 0), 1);
        Due.load(x, "pool 0 10;net 0 12;");
        Due.is("load keeps the plan", x.plan(1, 0), 1);
        Due.is("an empty one", x.makePlan(12), 0);
        Due.is("replaces it", x.plan(0, 0), -9);
    }

    private static void promise34() {
        PoolRenumberer x = twoMoves();
        Due.is("moves", x.makePlan(12), 2);
        int[][] want = {{0, 56, 500}, {1, 40, 0}};
        for (int move = 0; move < 2; move++) {
            for (int part = 0; part <= 2; part++) {
                Due.is("plan(" + move + ", " + part + ")", x.plan(move, part), want[move][part]);
            }
        }
        Due.is("none", x.plan(2, 0), -9);
        Due.is("move -1", x.plan(-1, 0), -1);
        Due.is("part -1", x.plan(0, -1), -1);
        Due.is("part 3", x.plan(0, 3), -1);
        Due.is("part 3 of none", x.plan(12, 3), -1);
        Due.is("none", x.plan(12, 0), -9);
        Due.is("none", x.plan(Integer.MAX_VALUE, 2), -9);
    }

    private static void promise35() {
        PoolRenumberer x = new PoolRenumberer();
        Due.is("none", x.undo(), -2);
        for (int pool = 0; pool < 4; pool++) {
            x.addPool(pool * 4, 14);
        }
        Due.write(x, "abc");
        x.setPolicy(1);
        x.setPolicy(2);
        Due.is("six", x.count(8), 6);
        x.setPolicy(3);
        Due.is("still six", x.count(8), 6);
        Due.is("5", x.undo(), 5);
        Due.is("4", x.undo(), 4);
        Due.is("3", x.undo(), 3);
        Due.is("a state in between", x.addPool(16, 14), -3);
        Due.is("2", x.undo(), 2);
        Due.is("three pools", x.count(1), 3);
        Due.is("a new one", x.addPool(64, 10), 3);
        Due.is("its state", x.count(8), 3);
        Due.is("2", x.undo(), 2);
        Due.is("1", x.undo(), 1);
        Due.is("0", x.undo(), 0);
        Due.is("the oldest was discarded", x.count(1), 1);
        Due.is("none", x.undo(), -2);
        Due.is("the text stays", x.clearText(), 3);
    }

    private static void promise35SavesBy() {
        PoolRenumberer x = new PoolRenumberer();
        Due.is("load", x.load() + x.count(8), 1);
        Due.is("addPool", x.addPool(0, 10) + x.count(8), 2);
        Due.is("assign", x.assign(0, 12) + x.count(8), 3);
        Due.is("addHost", x.addHost(0, 0, 0) + x.count(8), 5);
        Due.is("request", x.request(0) + x.count(8), 6);
        Due.is("undo", x.undo(), 4);
        Due.is("removeHost", x.removeHost(0) + x.count(8), 5);
        Due.is("undo", x.undo(), 4);
        Due.is("resize", x.resize(0, 13) + x.count(8), 5);
        Due.is("undo", x.undo(), 4);
        Due.is("renumber", x.renumber(0, 13) + x.count(8), 21);
        Due.is("undo", x.undo(), 4);
        Due.is("release", x.release(0) + x.count(8), 6);
        Due.is("removePool", x.removePool(0) + x.count(8), 6);
        Due.is("undo", x.undo(), 5);
        Due.is("undo", x.undo(), 4);
        Due.is("the host is there again", x.host(0, 0), 0);
        Due.is("setTimes", x.setTimes(60, 100) + x.count(8), 5);
        Due.is("undo", x.undo(), 4);
        Due.is("pass", x.pass(1) + x.count(8), 5);
        Due.is("undo", x.undo(), 4);
        Due.is("time", x.count(0), 0);
        Due.is("wave that is none", x.wave(1), -2);
        Due.is("states", x.count(8), 4);
        x.assign(1, 12);
        x.release(0);
        Due.is("wave", x.wave(1), 1);
        Due.is("undo", x.undo(), 5);
        Due.is("before the wave", x.network(1, 0), 16);
        Due.is("no old block", x.network(1, 2), -9);
        everyPart();
    }

    /** A renewal in between must leave nothing behind: neither an address nor a time nor a length. */
    private static void everyPart() {
        PoolRenumberer x = Due.with("pool 0 10;net 0 13;net 1 12;host 0 0;host 1 0 sticky;");
        x.request(0);
        x.request(1);
        x.pass(5);
        x.renumber(0, 12);
        x.request(0);
        x.pass(1);
        x.request(0);
        x.request(1);
        x.pass(500);
        x.renumber(0, 14);
        Due.is("undo", x.undo(), 5);
        Due.is("undo", x.undo(), 4);
        Due.is("undo", x.undo(), 3);
        Due.is("undo", x.undo(), 2);
        int[] network = {32, 12, 0, 13, 105, 2};
        int[] first = {0, 0, 33, 65, 1, 60};
        int[] second = {0, 1, -9, -9, 2, 60};
        for (int what = 0; what <= 5; what++) {
            Due.is("network(0, " + what + ") after undo", x.network(0, what), network[what]);
            Due.is("host(0, " + what + ") after undo", x.host(0, what), first[what]);
            Due.is("host(1, " + what + ") after undo", x.host(1, what), second[what]);
        }
    }
}
