/** Promises 1 to 12. */
public final class PoolsTest {
    public static void main(String[] args) {
        promise1();
        promise2();
        promise3();
        promise4();
        promise4ErrorPositions();
        promise4ReplacesAll();
        promise4AfterAWave();
        promise5();
        promise6();
        promise7();
        promise8();
        promise9();
        promise10();
        promise11();
        promise12();
        policies();
        Due.end();
    }

    private static void promise1() {
        PoolRenumberer x = new PoolRenumberer();
        for (int what = 0; what <= 8; what++) {
            Due.is("count(" + what + ") of a new object", x.count(what), 0);
        }
        Due.is("new pool", x.pool(0, 0), -1);
        Due.is("new clearText", x.clearText(), 0);
        Due.is("new plan", x.plan(0, 0), -9);
        Due.is("new routeCount", x.routeCount(), 0);
        Due.is("new nextEvent", x.nextEvent(), -9);
        Due.is("new policy", x.setPolicy(0), 0);
        Due.is("new times", x.setTimes(60, 100), 0);
        for (int network = 0; network < 12; network++) {
            Due.is("new network", x.network(network, 0), -9);
        }
        for (int host = 0; host < 16; host++) {
            Due.is("new host", x.host(host, 0), -9);
        }
    }

    private static void promise2() {
        PoolRenumberer x = new PoolRenumberer();
        Due.is("append -1", x.appendCharacter(-1), -1);
        Due.is("append 256", x.appendCharacter(256), -1);
        Due.is("append 0", x.appendCharacter(0), 1);
        Due.is("append 255", x.appendCharacter(255), 2);
        for (int i = 3; i <= 150; i++) {
            Due.is("append", x.appendCharacter(32), i);
        }
        Due.is("append 151st", x.appendCharacter(32), -3);
        Due.is("append 151st, wrong", x.appendCharacter(256), -1);
        Due.is("append least", x.appendCharacter(Integer.MIN_VALUE), -1);
        Due.is("length after", x.clearText(), 150);
        Due.is("no states", x.count(8), 0);
    }

    private static void promise3() {
        PoolRenumberer x = new PoolRenumberer();
        Due.write(x, "pool ?");
        Due.is("clearText", x.clearText(), 6);
        Due.is("clearText again", x.clearText(), 0);
        Due.is("load of nothing", x.load(), 0);
        Due.is("append after clear", x.appendCharacter(65), 1);
    }

    private static void promise4() {
        PoolRenumberer x = new PoolRenumberer();
        Due.is("empty", Due.load(x, ""), 0);
        Due.is("spaces", Due.load(x, "   "), 0);
        Due.is("spaces around", Due.load(x, "  pool  0  10  ;  "), 1);
        Due.is("no spaces", Due.load(x, "pool0 10;net0 12;host0 0sticky;policy3;"), 4);
        Due.is("sticky", x.host(0, 1), 1);
        Due.is("policy of the text", x.setPolicy(0), 3);
        Due.is("host not sticky", Due.load(x, "pool 0 10;net 11 16;host 15 11;"), 3);
        Due.is("sticky", x.host(15, 1), 0);
        Due.is("its network", x.host(15, 0), 11);
        Due.is("top in the text", Due.load(x, "pool 0 10;policy 3;net 0 12;policy 0;net 1 12;"), 5);
        Due.is("top", x.network(0, 0), 48);
        Due.is("first", x.network(1, 0), 0);
        Due.is("greatest pools", Due.load(x, "pool 61440 4;pool 65535 14;"), -10 - 24);
        Due.is("greatest pools", Due.load(x, "pool 57344 4;pool 65532 14;net 0 5;"), 3);
        Due.is("5 digits", x.pool(1, 0), 65532);
        Due.is("empty again", Due.load(x, ""), 0);
        Due.is("nothing left", x.count(1) + x.count(2) + x.count(4), 0);
    }

    private static void promise4ErrorPositions() {
        position("x", 0);
        position(" P", 1);
        position("pool", 4);
        position("pool  ", 6);
        position("pool 0", 6);
        position("pool 0 10", 9);
        position("pool 0 10 ", 10);
        position(";", 0);
        position("pool 0 10;;", 10);
        position("pool 0 10 10;", 10);
        position("pool pool", 5);
        position("poolx 0 10;", 0);
        position("bool 0 10;", 0);
        position("pool 0 10;get 0 12;", 10);
        position("poo 0 10;", 0);
        position("5 pool", 0);
        position("pool\t0 10;", 4);
        position("pool 65536 10;", 5);
        position("pool 123456 10;", 5);
        position("pool 99999999999999999999 10;", 5);
        position("pool 00 10;", 5);
        position("pool 0 010;", 7);
        position("pool 0 3;", 7);
        position("pool 0 15;", 7);
        position("pool 2 14;", 7);
        position("pool 0 10;pool 32 11;", 18);
        position("pool 32 11;pool 0 10;", 18);
        position("pool 0 14;pool 4 14;pool 8 14;pool 12 14; pool 16 14;", 42);
        position("pool 0 14;pool 4 14;pool 8 14;pool 12 14;pool", 41);
        position("net 12 10;", 4);
        position("net 0 4;", 6);
        position("net 0 17;", 6);
        position("net 0 10;", 6);
        position("pool 0 10;net 0 12;net 0 12;", 23);
        position("pool 0 10;net 0 12;net 1 10;", 25);
        position("pool 0 10;net 0 12;host 16 0;", 24);
        position("pool 0 10;net 0 12;host 0 12;", 26);
        position("pool 0 10;net 0 12;host 0 1;", 26);
        position("pool 0 10;net 0 12;host 0 0;host 0 0;", 33);
        position("pool 0 10;net 0 12;host 0 0 stick;", 28);
        position("pool 0 10;net 0 12;host 0 0 stickyy;", 28);
        position("pool 0 10;net 0 12;host 0 0 stickyz;", 28);
        position("pool 0 10;net 0 12;host 0 0 stickya;", 28);
        position("pool 0 10;net 0 12;host 0 0 sticky{;", 34);
        position("pool 0 10;net 0 12;host 0 0 sticky`;", 34);
        position("pool 0 10;net 0 12;host 0 0 sticky9;", 34);
        position("pool 0 10/;", 9);
        position("pool 0 10:;", 9);
        position("pool 0 10;net 0 12;host 0 0 sticky sticky;", 35);
        position("pool 0 10;net 0 12;host 0 0 sticky", 34);
        position("pool 0 10;net 0 12;host 0 0", 27);
        position("policy 4;", 7);
        position("policy ;", 7);
        position("policy 1 ", 9);
        position("sticky;", 0);
        position("pool 0 10" + (char) 233 + ";", 9);
        position("pool 0 10;{", 10);
        position("pool 0 10;`", 10);
        position("pool 0 10;Net 0 12;", 10);
    }

    private static void position(String text, int position) {
        PoolRenumberer x = Due.with("pool 1024 8;net 3 9;");
        Due.write(x, text);
        Due.is("load of " + text, x.load(), -10 - position);
        Due.is("pools after a wrong " + text, x.count(1), 1);
        Due.is("network after a wrong " + text, x.network(3, 0), 1024);
        Due.is("states after a wrong " + text, x.count(8), 1);
        Due.is("the text " + text + " is kept", x.clearText(), text.length());
    }

    private static void promise4ReplacesAll() {
        PoolRenumberer x = Due.with("pool 0 10;net 0 13;host 0 0;host 1 0;policy 2;");
        x.setTimes(7, 0);
        x.request(0);
        x.renumber(0, 13);
        x.pass(3);
        x.request(1);
        Due.is("cut before", x.count(6), 1);
        Due.write(x, "pool 256 10;net 1 12;");
        Due.is("load", x.load(), 2);
        Due.is("the text is empty", x.clearText(), 0);
        Due.is("time", x.count(0), 0);
        Due.is("leases", x.count(5), 0);
        Due.is("cut", x.count(6), 0);
        Due.is("hosts", x.count(4), 0);
        Due.is("networks", x.count(2), 1);
        Due.is("pool", x.pool(0, 0), 256);
        Due.is("policy", x.setPolicy(1), 0);
        Due.is("times", x.setTimes(60, 100), 0);
        x.undo();
        x.undo();
        Due.is("undo of load", x.undo(), 3);
        Due.is("cut again", x.count(6), 1);
        Due.is("time again", x.count(0), 3);
        Due.is("lease again", x.count(5), 1);
    }

    private static void promise4AfterAWave() {
        PoolRenumberer x = Due.with("pool 0 10;net 0 12;net 1 12;host 0 1 sticky;policy 2;");
        x.setTimes(7, 0);
        x.pass(3);
        x.request(0);
        x.setPolicy(0);
        x.release(0);
        Due.is("wave", x.wave(12), 1);
        Due.is("cut", x.count(6), 1);
        Due.is("load", Due.load(x, "pool 64 10;"), 1);
        int[] want = {0, 1, 0, 0, 0, 0, 0, 64, 6};
        for (int what = 0; what <= 8; what++) {
            Due.is("count(" + what + ") after a wave and a load", x.count(what), want[what]);
        }
        Due.is("times after a wave and a load", x.setTimes(60, 100), 0);
    }

    private static void promise5() {
        PoolRenumberer x = new PoolRenumberer();
        Due.is("begin -1", x.addPool(-1, 10), -1);
        Due.is("begin 65536", x.addPool(65536, 10), -1);
        Due.is("length 3", x.addPool(0, 3), -1);
        Due.is("length 15", x.addPool(0, 15), -1);
        Due.is("length least", x.addPool(0, Integer.MIN_VALUE), -1);
        Due.is("no multiple", x.addPool(2048, 4), -1);
        Due.is("greatest length", x.addPool(65532, 14), 0);
        Due.is("least length", x.addPool(4096, 4), 1);
        Due.is("the same", x.addPool(4096, 4), -2);
        Due.is("inside", x.addPool(8188, 14), -2);
        Due.is("outside", x.addPool(61440, 4), -2);
        Due.is("beside", x.addPool(8192, 14), 2);
        Due.is("below", x.addPool(0, 4), 3);
        Due.is("fifth", x.addPool(8196, 14), -3);
        Due.is("fifth, in common", x.addPool(0, 14), -2);
        Due.is("fifth, no multiple", x.addPool(8197, 14), -1);
        Due.is("pools", x.count(1), 4);
        Due.is("states", x.count(8), 4);
    }

    private static void promise6() {
        PoolRenumberer x = Due.with("pool 0 14;pool 4 14;pool 8 14;");
        Due.is("-1", x.removePool(-1), -1);
        Due.is("3", x.removePool(3), -1);
        x.assign(0, 14);
        Due.is("assigned", x.removePool(0), -2);
        Due.is("the middle", x.removePool(1), 2);
        Due.is("moved down", x.pool(1, 0), 8);
        Due.is("moved down, length", x.pool(1, 1), 14);
        Due.is("gone", x.pool(2, 0), -1);
        Due.is("the last", x.removePool(1), 1);
        Due.is("a new one", x.addPool(4, 14), 1);
        Due.is("renumber", x.renumber(0, 16), 4);
        Due.is("an old block is assigned", x.removePool(0), -2);
        Due.is("one address is assigned", x.removePool(1), -2);
        x.pass(100);
        Due.is("overlap over", x.removePool(0), 1);
        Due.is("renumbered pool", x.removePool(0), -2);
        x.release(0);
        Due.is("all gone", x.removePool(0), 0);
        Due.is("none", x.removePool(0), -1);
        x = Due.with("pool 0 11;pool 64 12;pool 128 13;pool 192 14;");
        Due.is("the first of four", x.removePool(0), 3);
        for (int pool = 0; pool < 3; pool++) {
            Due.is("its begin", x.pool(pool, 0), 64 + 64 * pool);
            Due.is("its length", x.pool(pool, 1), 12 + pool);
        }
        Due.is("beyond", x.removePool(3), -1);
        Due.is("the next one", x.addPool(0, 10), 3);
    }

    private static void promise7() {
        PoolRenumberer x = new PoolRenumberer();
        Due.is("-1", x.setPolicy(-1), -1);
        Due.is("4", x.setPolicy(4), -1);
        Due.is("no state", x.count(8), 0);
        Due.is("3", x.setPolicy(3), 0);
        Due.is("2", x.setPolicy(2), 3);
        Due.is("2 again", x.setPolicy(2), 2);
        Due.is("also the same one saves a state", x.count(8), 3);
    }

    private static void promise8() {
        PoolRenumberer x = Due.with("pool 64 10;pool 0 10;net 0 13;");
        Due.is("begin", x.pool(0, 0), 64);
        Due.is("length", x.pool(0, 1), 10);
        Due.is("free of another", x.pool(0, 2), 64);
        Due.is("one block", x.pool(0, 3), 1);
        Due.is("free", x.pool(1, 2), 56);
        Due.is("blocks", x.pool(1, 3), 3);
        Due.is("what 4", x.pool(0, 4), -1);
        Due.is("what -1", x.pool(0, -1), -1);
        Due.is("pool 2", x.pool(2, 0), -1);
        Due.is("pool -1", x.pool(-1, 0), -1);
        x.assign(1, 10);
        Due.is("full", x.pool(0, 2), 0);
        Due.is("full, blocks", x.pool(0, 3), 0);
        x.renumber(0, 12);
        Due.is("old blocks are not free", x.pool(1, 2), 40);
    }

    private static void promise9() {
        PoolRenumberer x = Due.with("pool 0 10;pool 64 10;net 0 16;");
        int[] want = {0, 0, 0, 0, 0, 0, 0, 0, 0, 0, 1, 1, 1, 1, 1, 1, 1};
        for (int length = 0; length <= 16; length++) {
            Due.is("freeBlocks " + length, x.freeBlocks(length), want[length]);
        }
        x.release(0);
        Due.is("buddies of two pools stay two", x.freeBlocks(10), 2);
        Due.is("and are not one", x.freeBlocks(9), 0);
        Due.is("-1", x.freeBlocks(-1), -1);
        Due.is("17", x.freeBlocks(17), -1);
    }

    private static void promise10() {
        PoolRenumberer x = Due.with("pool 0 10;pool 256 12;");
        Due.is("greatest", x.largestFree(), 10);
        x.assign(0, 11);
        Due.is("half", x.largestFree(), 11);
        x.assign(1, 11);
        Due.is("the other pool", x.largestFree(), 12);
        x.assign(2, 12);
        Due.is("none", x.largestFree(), -9);
    }

    private static void promise11() {
        PoolRenumberer x = Due.with("pool 0 10;pool 4096 4;net 0 16;");
        Due.is("16", x.capacity(16), 63 + 4096);
        Due.is("15", x.capacity(15), 31 + 2048);
        Due.is("10", x.capacity(10), 64);
        Due.is("11", x.capacity(11), 1 + 128);
        Due.is("4", x.capacity(4), 1);
        Due.is("3", x.capacity(3), 0);
        Due.is("0", x.capacity(0), 0);
        Due.is("-1", x.capacity(-1), -1);
        Due.is("17", x.capacity(17), -1);
    }

    private static void promise12() {
        PoolRenumberer x = new PoolRenumberer();
        Due.is("no pool", x.fragmentation(), 0);
        x.addPool(0, 14);
        Due.is("one block", x.fragmentation(), 0);
        x.assign(0, 16);
        Due.is("2 of 3", x.fragmentation(), 334);
        x.addPool(64, 10);
        Due.is("64 of 67", x.fragmentation(), 1000 - 64000 / 67);
        x.assign(1, 10);
        x.assign(2, 15);
        Due.is("1 of 1", x.fragmentation(), 0);
        x.assign(3, 16);
        Due.is("none free", x.fragmentation(), 0);
    }

    /** Free blocks of lengths 12 (16..31), 11 (96..127), 13 (40..47), 12 (64..79), each beside assigned ones. */
    private static void policies() {
        int[] of14 = {16, 40, 96, 44};
        int[] of12 = {16, 16, 96, 64};
        for (int policy = 0; policy < 4; policy++) {
            PoolRenumberer x = holes();
            x.setPolicy(policy);
            Due.is("policy " + policy + " places a 14", x.assign(10, 14), of14[policy]);
            x = holes();
            x.setPolicy(policy);
            Due.is("policy " + policy + " places a 12", x.assign(10, 12), of12[policy]);
            Due.is("policy " + policy + " does not place a 10", x.assign(11, 10), -3);
        }
    }

    private static PoolRenumberer holes() {
        PoolRenumberer x = Due.with("pool 0 9;net 0 12;net 1 12;net 2 13;net 3 13;net 4 12;net 5 12;net 6 12;net 7 11;");
        Due.is("hole at 16", x.network(1, 0), 16);
        Due.is("hole at 40", x.network(3, 0), 40);
        Due.is("hole at 64", x.network(5, 0), 64);
        Due.is("hole at 96", x.network(7, 0), 96);
        x.release(1);
        x.release(3);
        x.release(5);
        x.release(7);
        return x;
    }
}
