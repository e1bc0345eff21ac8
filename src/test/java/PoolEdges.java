/** The edges that promises 1 to 12 name, sentence by sentence. */
final class PoolEdges {
    private static final Edge.Steps FOUR = Edge.from("pool 64 10;pool 0 11;pool 128 12;pool 256 14;");
    private static final Edge.Steps BUSY_FOUR = Edge.busy("pool 64 10;pool 0 11;pool 128 12;pool 256 14;");
    private static final Edge.Steps FULL_POOL = Edge.busy("pool 64 12;net 0 13;net 1 14;net 2 14;");

    private PoolEdges() {
    }

    static void lookAtAll() {
        promise1();
        promise2();
        promise2Full();
        promise3();
        promise4();
        promise4Times();
        promise4Items();
        promise4Refused();
        promise5();
        promise5Multiples();
        promise5Common();
        promise5Full();
        promise6();
        promise6Numbers();
        promise6Refused();
        promise7();
        promise8();
        promise9();
        promise10();
        promise11();
        promise12();
    }

    /** A text of some length that is an item and spaces behind it. */
    private static Edge.Steps textOf(int length) {
        return x -> {
            Due.write(x, "policy 2;".substring(0, Math.min(9, length)));
            for (int at = 9; at < length; at++) {
                x.appendCharacter(32);
            }
        };
    }

    private static void promise1() {
        Edge.says(1, "Creates a manager without pools, with an empty text and an empty plan.");
        for (int what = 0; what <= 8; what++) {
            int number = what;
            Edge.asked(Edge.NEW, 0, x -> x.count(number));
        }
        for (int pool = 0; pool <= 4; pool++) {
            int number = pool;
            Edge.refused(Edge.NEW, -1, x -> x.pool(number, 0));
        }
        Edge.writes(Edge.NEW, 0, x -> x.clearText());
        Edge.loads(Edge.NEW, 0, x -> x.load());
        for (int part = 0; part <= 2; part++) {
            int number = part;
            Edge.asked(Edge.NEW, -9, x -> x.plan(0, number));
        }
        Edge.refused(Edge.NEW, -2, x -> x.undo());
    }

    private static void promise2() {
        Edge.says(2, "Appends a character to the text.");
        PoolRenumberer x = new PoolRenumberer();
        int length = 0;
        for (char sign : "pool 4 14;".toCharArray()) {
            length++;
            Edge.is(x.appendCharacter(sign), length);
        }
        Edge.is(x.load(), 1);
        Edge.is(x.pool(0, 0), 4);

        Edge.says(2, "`character`: character code, 0 to 255");
        Edge.writes(Edge.NEW, 1, y -> y.appendCharacter(0));
        Edge.writes(Edge.NEW, 1, y -> y.appendCharacter(255));
        for (int sign = 0; sign <= 255; sign++) {
            PoolRenumberer one = new PoolRenumberer();
            Edge.is(one.appendCharacter(sign), 1);
            Edge.is(one.load(), sign == 32 ? 0 : -10);
        }

        Edge.says(2, "Returns the new length of the text;");
        Edge.writes(textOf(0), 1, y -> y.appendCharacter(32));
        Edge.writes(textOf(1), 2, y -> y.appendCharacter(32));
        Edge.writes(textOf(148), 149, y -> y.appendCharacter(32));
        Edge.writes(textOf(149), 150, y -> y.appendCharacter(32));
        Edge.writes(Edge.busy("pool 0 10;"), 13, y -> y.appendCharacter(32));

        Edge.says(2, "INVALID_ARGUMENT if character is out of range;");
        for (int sign : Edge.outside(0, 255)) {
            Edge.refused(Edge.NEW, -1, y -> y.appendCharacter(sign));
            Edge.refused(FULL_POOL, -1, y -> y.appendCharacter(sign));
            Edge.refused(textOf(150), -1, y -> y.appendCharacter(sign));
        }
    }

    private static void promise2Full() {
        Edge.says(2, "CAPACITY_EXCEEDED if the text has 150 characters.");
        Edge.refused(textOf(150), -3, x -> x.appendCharacter(0));
        Edge.refused(textOf(150), -3, x -> x.appendCharacter(59));
        Edge.refused(textOf(150), -3, x -> x.appendCharacter(255));
        PoolRenumberer x = new PoolRenumberer();
        textOf(150).on(x);
        Edge.is(x.appendCharacter(59), -3);
        Edge.is(x.appendCharacter(59), -3);
        Edge.is(x.clearText(), 150);
        Edge.is(x.appendCharacter(59), 1);
        Edge.is(x.clearText(), 1);
        textOf(150).on(x);
        Edge.is(x.load(), 1);
        Edge.is(x.appendCharacter(59), 1);
    }

    private static void promise3() {
        Edge.says(3, "Makes the text empty.");
        for (int length : new int[] {0, 1, 150}) {
            PoolRenumberer x = new PoolRenumberer();
            textOf(length).on(x);
            x.clearText();
            Edge.is(x.clearText(), 0);
            Edge.is(x.load(), 0);
            Edge.is(x.setPolicy(0), 0);
            Edge.is(x.appendCharacter(32), 1);
        }

        Edge.says(3, "Returns the previous length of the text.");
        for (int length : new int[] {0, 1, 2, 149, 150}) {
            Edge.writes(textOf(length), length, x -> x.clearText());
        }
        Edge.writes(FULL_POOL, 12, x -> x.clearText());
    }

    /** All that a load replaces: pools, networks, hosts, leases, the policy, the times, and a lease that was cut. */
    private static final Edge.Steps LIVELY = Edge.from(
            "pool 0 12;pool 32 12;policy 2;net 0 14;net 11 14;host 0 0;host 15 0 sticky;host 3 11;",
            x -> x.setTimes(7, 0), x -> x.request(0), x -> x.renumber(0, 14), x -> x.setTimes(8, 9),
            x -> x.request(0), x -> x.request(3), x -> x.renumber(11, 14), x -> x.pass(3), x -> x.request(0));

    private static Edge.Steps with(Edge.Steps before, String text) {
        return x -> {
            before.on(x);
            Due.write(x, text);
        };
    }

    private static void promise4() {
        Edge.says(4, "Reads the text as a set-up, in place of all pools, networks, hosts, leases and of the policy;");
        PoolRenumberer x = new PoolRenumberer();
        with(LIVELY, "pool 64 13;net 5 15;host 2 5;").on(x);
        Edge.is(x.count(6), 1);
        Edge.is(x.load(), 3);
        int[] counts = {0, 1, 1, 0, 1, 0, 0, 6};
        for (int what = 0; what < counts.length; what++) {
            Edge.is(x.count(what), counts[what]);
        }
        Edge.is(x.pool(0, 0), 64);
        Edge.is(x.pool(1, 0), -1);
        Edge.is(x.network(0, 0), -9);
        Edge.is(x.network(11, 2), -9);
        Edge.is(x.network(5, 0), 64);
        Edge.is(x.host(0, 0), -9);
        Edge.is(x.host(2, 0), 5);
        Edge.is(x.nextEvent(), -9);
        Edge.is(x.setPolicy(1), 0);
        Edge.loads(with(LIVELY, "pool 64 13;"), 1, y -> y.load());
        Edge.loads(with(LIVELY, ""), 0, y -> y.load());
        x = new PoolRenumberer();
        LIVELY.on(x);
        Edge.is(x.load(), 0);
        for (int what = 0; what <= 7; what++) {
            Edge.is(x.count(what), 0);
        }
        Edge.is(x.setPolicy(1), 0);
    }

    private static void promise4Times() {
        Edge.says(4, "the time becomes 0, the lease time 60, the overlap time 100, and nothing is counted as cut.");
        PoolRenumberer x = new PoolRenumberer();
        with(LIVELY, "pool 64 13;net 5 15;host 2 5;").on(x);
        x.load();
        Edge.is(x.count(0), 0);
        Edge.is(x.count(6), 0);
        Edge.is(x.request(2), 64);
        Edge.is(x.host(2, 3), 60);
        Edge.is(x.renumber(5, 15), 66);
        Edge.is(x.network(5, 4), 100);
        Edge.is(x.setTimes(60, 100), 0);
        x = new PoolRenumberer();
        for (int turn = 0; turn < 9; turn++) {
            x.pass(1000);
        }
        x.pass(999);
        Edge.is(x.load(), 0);
        Edge.is(x.count(0), 0);
        Edge.is(x.pass(1), 0);
        // After a wave that cut a lease.
        x = new PoolRenumberer();
        Edge.from("pool 0 12;net 1 14;net 0 14;host 0 0;", y -> y.pass(3), y -> y.request(0), y -> y.release(1),
                y -> y.setTimes(7, 0), y -> y.wave(1)).on(x);
        Edge.is(x.count(6), 1);
        Edge.is(x.load(), 0);
        Edge.is(x.count(0), 0);
        Edge.is(x.count(6), 0);
        Edge.is(x.setTimes(60, 100), 0);

        Edge.says(4, "The text becomes empty.");
        for (String text : new String[] {"", " ", "pool 0 10;", "policy 1; "}) {
            x = new PoolRenumberer();
            Due.write(x, text);
            Edge.is(x.load() >= 0 ? 1 : 0, 1);
            Edge.is(x.clearText(), 0);
            Edge.is(x.load(), 0);
            Edge.is(x.count(1), 0);
        }
    }

    private static void promise4Items() {
        Edge.says(4, "Returns the number of items;");
        Edge.loads(with(Edge.NEW, ""), 0, x -> x.load());
        Edge.loads(with(Edge.NEW, " ".repeat(150)), 0, x -> x.load());
        Edge.loads(with(Edge.NEW, "pool0 4;"), 1, x -> x.load());
        // An item has 8 characters or more, so 150 of them hold 18 items and 6 spaces.
        Edge.loads(with(Edge.NEW, "policy3;".repeat(18) + " ".repeat(6)), 18, x -> x.load());
        Edge.loads(with(Edge.NEW, " ".repeat(6) + "policy3;".repeat(18)), 18, x -> x.load());
        Edge.loads(with(FULL_POOL, "t 0 16;"), 2, x -> x.load());
        PoolRenumberer x = new PoolRenumberer();
        with(FULL_POOL, "t 0 16;").on(x);
        x.load();
        Edge.is(x.pool(0, 0), 4);
        Edge.is(x.network(0, 0), 4);
    }

    private static void promise4Refused() {
        Edge.says(4, "-10 minus the error position if the text has an error (then nothing changes, and the text is kept).");
        Edge.refused(with(Edge.NEW, ";"), -10, x -> x.load());
        Edge.refused(with(LIVELY, ";"), -10, x -> x.load());
        Edge.refused(with(LIVELY, "pool 64 13;x"), -21, x -> x.load());
        Edge.refused(with(LIVELY, "policy"), -16, x -> x.load());
        Edge.refused(FULL_POOL, -20, x -> x.load());
        // The last character of 150, and the end behind it.
        Edge.refused(with(Edge.NEW, " ".repeat(149) + "x"), -10 - 149, x -> x.load());
        Edge.refused(with(Edge.NEW, "policy 0" + " ".repeat(142)), -10 - 150, x -> x.load());
        Edge.refused(with(Edge.NEW, " ".repeat(142) + "policy 0"), -10 - 150, x -> x.load());
        Edge.refused(with(Edge.NEW, " ".repeat(143) + "policy"), -10 - 149, x -> x.load());
        PoolRenumberer x = new PoolRenumberer();
        Due.write(x, "pool 64 13");
        Edge.is(x.load(), -10 - 10);
        Edge.is(x.load(), -10 - 10);
        Edge.is(x.appendCharacter(59), 11);
        Edge.is(x.load(), 1);
    }

    private static void promise5() {
        Edge.says(5, "Adds a pool.");
        Edge.saves(Edge.NEW, 0, x -> x.addPool(64, 10));
        Edge.saves(FULL_POOL, 1, x -> x.addPool(0, 10));
        PoolRenumberer x = new PoolRenumberer();
        x.addPool(64, 10);
        Edge.is(x.count(1), 1);
        Edge.is(x.pool(0, 0), 64);
        Edge.is(x.pool(0, 1), 10);
        Edge.is(x.pool(0, 2), 64);
        Edge.is(x.assign(0, 10), 64);

        Edge.says(5, "`beginning`: 0 to 65535");
        Edge.saves(Edge.NEW, 0, y -> y.addPool(0, 14));
        Edge.saves(Edge.NEW, 0, y -> y.addPool(65532, 14));
        Edge.saves(Edge.NEW, 0, y -> y.addPool(0, 4));
        Edge.saves(Edge.NEW, 0, y -> y.addPool(61440, 4));
        Edge.refused(Edge.NEW, -1, y -> y.addPool(65535, 14));

        Edge.says(5, "`length`: 4 to 14");
        for (int length = 4; length <= 14; length++) {
            int some = length;
            Edge.saves(Edge.NEW, 0, y -> y.addPool(61440, some));
        }

        Edge.says(5, "Returns the number of the pool;");
        x = new PoolRenumberer();
        for (int pool = 0; pool < 4; pool++) {
            Edge.is(x.addPool(65532 - 4 * pool, 14), pool);
        }

        Edge.says(5, "INVALID_ARGUMENT if an argument is out of range");
        for (int beginning : Edge.outside(0, 65535)) {
            Edge.refused(Edge.NEW, -1, y -> y.addPool(beginning, 14));
            Edge.refused(BUSY_FOUR, -1, y -> y.addPool(beginning, 4));
        }
        // Multiples of every size, so that only the range forbids them.
        for (int beginning : new int[] {-65536, -4096, 65536, 69632, Integer.MIN_VALUE}) {
            Edge.refused(Edge.NEW, -1, y -> y.addPool(beginning, 4));
            Edge.refused(FOUR, -1, y -> y.addPool(beginning, 14));
        }
        for (int length : Edge.outside(4, 14)) {
            Edge.refused(Edge.NEW, -1, y -> y.addPool(0, length));
            Edge.refused(BUSY_FOUR, -1, y -> y.addPool(0, length));
        }
    }

    private static void promise5Multiples() {
        Edge.says(5, "or the beginning is no multiple of the size;");
        for (int length = 4; length <= 14; length++) {
            int some = length;
            int size = 1 << (16 - length);
            for (int beginning : new int[] {1, size / 2, size - 1, size + 1, size + size / 2, 65536 - size / 2}) {
                Edge.refused(Edge.NEW, -1, x -> x.addPool(beginning, some));
            }
            Edge.saves(Edge.NEW, 0, x -> x.addPool(size, some));
            Edge.saves(Edge.NEW, 0, x -> x.addPool(65536 - size, some));
        }
        // In common with another pool too, and with 4 pools.
        Edge.refused(FOUR, -1, x -> x.addPool(66, 14));
    }

    private static void promise5Common() {
        Edge.says(5, "ILLEGAL_STATE if it has an address in common with another pool;");
        Edge.Steps two = Edge.busy("pool 61440 4;pool 64 10;");
        Edge.refused(two, -2, x -> x.addPool(61440, 4));
        Edge.refused(two, -2, x -> x.addPool(61440, 14));
        Edge.refused(two, -2, x -> x.addPool(65532, 14));
        Edge.refused(two, -2, x -> x.addPool(64, 10));
        Edge.refused(two, -2, x -> x.addPool(64, 14));
        Edge.refused(two, -2, x -> x.addPool(124, 14));
        Edge.refused(two, -2, x -> x.addPool(0, 9));
        Edge.refused(two, -2, x -> x.addPool(0, 4));
        Edge.saves(two, 2, x -> x.addPool(57344, 4));
        Edge.saves(two, 2, x -> x.addPool(60, 14));
        Edge.saves(two, 2, x -> x.addPool(0, 10));
        Edge.saves(two, 2, x -> x.addPool(128, 9));
        // Each of 4 pools, and with CAPACITY_EXCEEDED behind it.
        for (int beginning : new int[] {64, 0, 128, 256}) {
            Edge.refused(FOUR, -2, x -> x.addPool(beginning, 14));
        }
        Edge.refused(FOUR, -2, x -> x.addPool(0, 4));
    }

    private static void promise5Full() {
        Edge.says(5, "CAPACITY_EXCEEDED if there are 4 pools.");
        Edge.refused(FOUR, -3, x -> x.addPool(260, 14));
        Edge.refused(BUSY_FOUR, -3, x -> x.addPool(61440, 4));
        Edge.saves(Edge.from("pool 64 10;pool 0 11;pool 128 12;"), 3, x -> x.addPool(260, 14));
        PoolRenumberer x = new PoolRenumberer();
        FOUR.on(x);
        x.removePool(2);
        Edge.is(x.addPool(260, 14), 3);
        Edge.is(x.addPool(264, 14), -3);
    }

    private static void promise6() {
        Edge.says(6, "Removes a pool.");
        Edge.saves(Edge.from("pool 64 10;"), 0, x -> x.removePool(0));
        Edge.saves(BUSY_FOUR, 3, x -> x.removePool(3));
        PoolRenumberer x = new PoolRenumberer();
        x.addPool(64, 10);
        x.removePool(0);
        Edge.is(x.count(1), 0);
        Edge.is(x.count(7), 0);
        Edge.is(x.assign(0, 16), -3);
        Edge.is(x.addPool(0, 9), 0);

        Edge.says(6, "`pool`: number of a pool");
        for (int pool = 0; pool <= 3; pool++) {
            int number = pool;
            Edge.saves(FOUR, 3, y -> y.removePool(number));
        }

        Edge.says(6, "Returns the number of pools then;");
        x = new PoolRenumberer();
        FOUR.on(x);
        for (int left = 3; left >= 0; left--) {
            Edge.is(x.removePool(0), left);
        }

        Edge.says(6, "INVALID_ARGUMENT if there is no such pool;");
        for (int pool : Edge.outside(0, 3)) {
            Edge.refused(BUSY_FOUR, -1, y -> y.removePool(pool));
        }
        Edge.refused(Edge.NEW, -1, y -> y.removePool(0));
        Edge.refused(Edge.from("pool 64 10;"), -1, y -> y.removePool(1));
        Edge.refused(Edge.from("pool 64 10;net 0 10;"), -1, y -> y.removePool(1));
        Edge.refused(Edge.from("pool 64 10;pool 0 14;", y -> y.removePool(1)), -1, y -> y.removePool(1));
        Edge.refused(Edge.from("pool 64 10;", y -> y.removePool(0)), -1, y -> y.removePool(0));
    }

    private static void promise6Numbers() {
        Edge.says(6, "The pools with greater numbers get numbers that are 1 less.");
        int[] begins = {64, 0, 128, 256};
        int[] lengths = {10, 11, 12, 14};
        for (int gone = 0; gone <= 3; gone++) {
            PoolRenumberer x = new PoolRenumberer();
            FOUR.on(x);
            x.removePool(gone);
            for (int pool = 0; pool <= 2; pool++) {
                int was = pool < gone ? pool : pool + 1;
                Edge.is(x.pool(pool, 0), begins[was]);
                Edge.is(x.pool(pool, 1), lengths[was]);
            }
            Edge.is(x.pool(3, 0), -1);
        }
        // The networks stay where they are.
        PoolRenumberer x = new PoolRenumberer();
        Edge.from("pool 64 10;pool 0 10;net 0 10;net 1 11;", y -> y.release(0)).on(x);
        Edge.is(x.network(1, 0), 64);
        Edge.is(x.removePool(1), 1);
        Edge.is(x.network(1, 0), 64);
        Edge.is(x.pool(0, 2), 32);
        Edge.is(x.removePool(0), -2);
    }

    private static void promise6Refused() {
        Edge.says(6, "ILLEGAL_STATE if an address of it is assigned.");
        Edge.refused(Edge.from("pool 61440 4;pool 0 14;policy 3;net 0 14;net 1 16;"), -2, x -> x.removePool(0));
        Edge.refused(Edge.from("pool 61440 4;pool 0 14;policy 3;net 0 14;net 1 16;"), -2, x -> x.removePool(1));
        Edge.refused(Edge.from("pool 61440 4;net 0 16;"), -2, x -> x.removePool(0));
        Edge.refused(FULL_POOL, -2, x -> x.removePool(0));
        // Only the old block of a network lies in pool 0.
        Edge.Steps old = Edge.busy("pool 0 14;pool 4 14;net 0 14;", x -> x.renumber(0, 14));
        Edge.refused(old, -2, x -> x.removePool(0));
        Edge.refused(old, -2, x -> x.removePool(1));
        Edge.Steps ended = Edge.busy("pool 0 14;pool 4 14;net 0 14;", x -> x.renumber(0, 14), x -> x.pass(100));
        Edge.saves(ended, 1, x -> x.removePool(0));
        Edge.refused(ended, -2, x -> x.removePool(1));
        // Beside an assigned pool, on both sides.
        Edge.Steps middle = Edge.from("pool 4 14;net 0 14;pool 0 14;pool 8 14;");
        Edge.saves(middle, 2, x -> x.removePool(1));
        Edge.saves(middle, 2, x -> x.removePool(2));
    }

    private static void promise7() {
        Edge.says(7, "Sets the policy.");
        // Free are 64 to 95, 0 to 15 and 96 to 111.
        int[] places = {0, 0, 64, 110};
        for (int policy = 0; policy <= 3; policy++) {
            PoolRenumberer x = new PoolRenumberer();
            Edge.from("pool 64 11;pool 0 12;pool 96 12;").on(x);
            x.setPolicy(policy);
            Edge.is(x.assign(2, 15), places[policy]);
        }

        Edge.says(7, "`policy`: 0 to 3");
        for (int policy = 0; policy <= 3; policy++) {
            int some = policy;
            Edge.saves(Edge.NEW, 0, x -> x.setPolicy(some));
            Edge.saves(FULL_POOL, 0, x -> x.setPolicy(some));
        }

        Edge.says(7, "Returns the previous policy;");
        for (int policy = 0; policy <= 3; policy++) {
            int some = policy;
            Edge.Steps before = x -> x.setPolicy(some);
            Edge.saves(before, some, x -> x.setPolicy(0));
            Edge.saves(before, some, x -> x.setPolicy(3));
        }

        Edge.says(7, "INVALID_ARGUMENT if policy is out of range.");
        for (int policy : Edge.outside(0, 3)) {
            Edge.refused(Edge.NEW, -1, x -> x.setPolicy(policy));
            Edge.refused(Edge.busy("pool 0 10;policy 3;"), -1, x -> x.setPolicy(policy));
        }
    }

    private static void promise8() {
        Edge.says(8, "Returns a property of a pool.");
        Edge.Steps some = Edge.busy("pool 61440 4;pool 0 14;policy 1;net 0 14;");
        Edge.asked(some, 61440, x -> x.pool(0, 0));
        Edge.asked(some, 0, x -> x.pool(1, 0));

        Edge.says(8, "`pool`: number of a pool");
        int[] begins = {64, 0, 128, 256};
        for (int pool = 0; pool <= 3; pool++) {
            int number = pool;
            Edge.asked(BUSY_FOUR, begins[number], x -> x.pool(number, 0));
        }

        Edge.says(8, "0 its beginning, 1 its length, 2 the number of its free addresses, 3 the number of its free blocks");
        int[][] want = {{61440, 4, 4096, 1}, {0, 14, 0, 0}};
        for (int pool = 0; pool <= 1; pool++) {
            for (int what = 0; what <= 3; what++) {
                int number = pool;
                int part = what;
                Edge.asked(some, want[pool][what], x -> x.pool(number, part));
            }
        }
        // One address of the greatest pool is assigned: a free block of each length from 5 to 16 is left.
        Edge.asked(Edge.from("pool 61440 4;net 0 16;"), 4095, x -> x.pool(0, 2));
        Edge.asked(Edge.from("pool 61440 4;net 0 16;"), 12, x -> x.pool(0, 3));
        Edge.asked(Edge.from("pool 61440 4;policy 3;net 0 16;"), 12, x -> x.pool(0, 3));
        // The smallest pool: free, with one, two, three and four assigned addresses.
        PoolRenumberer x = new PoolRenumberer();
        x.addPool(65532, 14);
        int[] blocks = {1, 2, 1, 1, 0};
        for (int used = 0; used <= 4; used++) {
            Edge.is(x.pool(0, 2), 4 - used);
            Edge.is(x.pool(0, 3), blocks[used]);
            x.assign(used, 16);
        }
        Edge.asked(Edge.from("pool 0 14;net 0 16;", y -> y.renumber(0, 16)), 2, y -> y.pool(0, 2));
        // Pools side by side: what is assigned in one of them, near the end of the other one, is no matter of that one.
        for (int gone = 0; gone <= 3; gone++) {
            x = new PoolRenumberer();
            Edge.from("pool 4 14;net 0 16;net 1 16;net 2 16;net 3 16;pool 0 14;pool 8 14;").on(x);
            x.release(gone);
            for (int pool = 1; pool <= 2; pool++) {
                Edge.is(x.pool(pool, 2), 4);
                Edge.is(x.pool(pool, 3), 1);
            }
            Edge.is(x.pool(0, 2), 1);
            Edge.is(x.pool(0, 3), 1);
            Edge.is(x.freeBlocks(14), 2);
        }
        for (int kept = 0; kept <= 3; kept++) {
            x = new PoolRenumberer();
            Edge.from("pool 4 14;net 0 16;net 1 16;net 2 16;net 3 16;pool 0 14;pool 8 14;").on(x);
            for (int gone = 0; gone <= 3; gone++) {
                Edge.is(gone == kept ? 0 : x.release(gone), 0);
            }
            for (int pool = 1; pool <= 2; pool++) {
                Edge.is(x.pool(pool, 2), 4);
                Edge.is(x.pool(pool, 3), 1);
            }
            Edge.is(x.pool(0, 2), 3);
            Edge.is(x.pool(0, 3), 2);
            Edge.is(x.count(7), 11);
        }

        Edge.says(8, "Returns the property;");
        Edge.asked(FULL_POOL, 0, y -> y.pool(0, 2));
        Edge.asked(FULL_POOL, 0, y -> y.pool(0, 3));

        Edge.says(8, "INVALID_ARGUMENT if there is no such pool or what is out of range.");
        for (int pool : Edge.outside(0, 3)) {
            Edge.refused(FOUR, -1, y -> y.pool(pool, 0));
            Edge.refused(FOUR, -1, y -> y.pool(pool, 3));
        }
        for (int what : Edge.outside(0, 3)) {
            Edge.refused(FULL_POOL, -1, y -> y.pool(0, what));
        }
        for (int what = 0; what <= 3; what++) {
            int part = what;
            Edge.refused(Edge.NEW, -1, y -> y.pool(0, part));
            Edge.refused(FULL_POOL, -1, y -> y.pool(1, part));
        }
    }

    private static void promise9() {
        Edge.says(9, "Counts the free blocks of all pools with a length.");
        Edge.Steps four = Edge.from("pool 0 4;pool 4096 4;pool 8192 4;pool 12288 4;");
        // Together they would be a block of the length 2.
        Edge.asked(four, 4, x -> x.freeBlocks(4));
        Edge.asked(four, 0, x -> x.freeBlocks(3));
        Edge.asked(four, 0, x -> x.freeBlocks(2));
        Edge.asked(Edge.busy("pool 0 14;pool 4 14;net 0 16;"), 1, x -> x.freeBlocks(14));
        Edge.asked(Edge.busy("pool 0 14;pool 4 14;net 0 16;"), 1, x -> x.freeBlocks(16));

        Edge.says(9, "`length`: 0 to 16");
        for (int length = 0; length <= 16; length++) {
            int some = length;
            Edge.asked(Edge.NEW, 0, x -> x.freeBlocks(some));
            Edge.asked(FULL_POOL, 0, x -> x.freeBlocks(some));
            Edge.asked(Edge.from("pool 61440 4;net 0 16;"), some < 5 ? 0 : 1, x -> x.freeBlocks(some));
        }

        Edge.says(9, "Returns their number;");
        // 12 single addresses, every second one released: 6 single free ones, and 12..15.
        PoolRenumberer x = new PoolRenumberer();
        x.addPool(0, 12);
        for (int network = 0; network < 12; network++) {
            Edge.is(x.assign(network, 16), network);
        }
        Edge.is(x.freeBlocks(16), 0);
        for (int network = 0; network < 12; network += 2) {
            x.release(network);
        }
        Edge.is(x.freeBlocks(16), 6);
        Edge.is(x.freeBlocks(15), 0);
        Edge.is(x.freeBlocks(14), 1);

        mostFreeBlocks();

        Edge.says(9, "INVALID_ARGUMENT if length is out of range.");
        for (int length : Edge.outside(0, 16)) {
            Edge.refused(Edge.NEW, -1, y -> y.freeBlocks(length));
            Edge.refused(FULL_POOL, -1, y -> y.freeBlocks(length));
        }
    }

    /**
     * By worst 24 single addresses are spread over four pools: one in each of 16 quarters, which leaves free blocks of
     * the lengths 7 to 16 there, and 8 more in 8 of the 16 free blocks of the length 7.
     */
    private static void mostFreeBlocks() {
        PoolRenumberer x = new PoolRenumberer();
        Edge.from("pool 49152 4;pool 53248 4;pool 57344 4;pool 61440 4;policy 2;").on(x);
        for (int network = 0; network <= 11; network++) {
            x.assign(network, 16);
        }
        for (int network = 0; network <= 11; network++) {
            x.renumber(network, 16);
        }
        Edge.is(x.count(7), 16384 - 24);
        for (int length = 0; length <= 16; length++) {
            Edge.is(x.freeBlocks(length), length < 7 ? 0 : length == 7 ? 8 : 24);
        }
        int blocks = 0;
        int addresses = 0;
        for (int pool = 0; pool <= 3; pool++) {
            blocks += x.pool(pool, 3);
            addresses += x.pool(pool, 2);
        }
        Edge.is(blocks, 8 + 9 * 24);
        Edge.is(addresses, 16384 - 24);
        Edge.is(x.routeCount(), 24);
        Edge.is(x.capacity(16), 16384 - 24);
        Edge.is(x.capacity(7), 8);
        Edge.is(x.largestFree(), 7);
        Edge.is(x.fragmentation(), 1000 - 512000 / (16384 - 24));
    }

    private static void promise10() {
        Edge.says(10, "Returns the length of the greatest free block of all pools.");
        for (int length = 4; length <= 14; length++) {
            int some = length;
            Edge.Steps one = x -> x.addPool(61440, some);
            Edge.asked(one, length, x -> x.largestFree());
        }
        Edge.asked(Edge.busy("pool 0 14;pool 64 10;pool 128 12;"), 10, x -> x.largestFree());
        Edge.asked(Edge.from("pool 0 4;pool 4096 4;pool 8192 4;pool 12288 4;"), 4, x -> x.largestFree());

        Edge.says(10, "Returns the length;");
        Edge.asked(Edge.from("pool 0 14;net 0 15;net 1 16;"), 16, x -> x.largestFree());
        Edge.asked(Edge.from("pool 0 14;net 0 16;net 1 16;net 2 16;", x -> x.release(1)), 16, x -> x.largestFree());
        Edge.asked(Edge.from("pool 61440 4;net 0 16;"), 5, x -> x.largestFree());

        Edge.says(10, "NONE if no address is free.");
        Edge.asked(Edge.NEW, -9, x -> x.largestFree());
        Edge.asked(FULL_POOL, -9, x -> x.largestFree());
        Edge.asked(Edge.from("pool 0 14;net 0 15;", x -> x.renumber(0, 15)), -9, x -> x.largestFree());
        Edge.asked(Edge.from("pool 0 14;", x -> x.removePool(0)), -9, x -> x.largestFree());
    }

    private static void promise11() {
        Edge.says(11, "Returns how many blocks of a length could be placed one after the other.");
        for (int length = 12; length <= 16; length++) {
            PoolRenumberer x = new PoolRenumberer();
            Edge.from("pool 0 13;pool 64 13;net 0 16;").on(x);
            int capacity = x.capacity(length);
            int placed = 0;
            for (int network = 1; network < 12 && x.assign(network, length) >= 0; network++) {
                placed++;
            }
            Edge.is(Math.min(capacity, 11), placed);
        }

        Edge.says(11, "`length`: 0 to 16");
        Edge.Steps four = Edge.from("pool 0 4;pool 4096 4;pool 8192 4;pool 12288 4;");
        for (int length = 0; length <= 16; length++) {
            int some = length;
            Edge.asked(four, some < 4 ? 0 : 4 << (some - 4), x -> x.capacity(some));
            Edge.asked(Edge.NEW, 0, x -> x.capacity(some));
            Edge.asked(FULL_POOL, 0, x -> x.capacity(some));
        }

        Edge.says(11, "the sum over all free blocks of how many blocks of this length they contain;");
        // Free are 1, 2 and 3, 4..7 and the pool 64..71.
        Edge.Steps some = Edge.busy("pool 0 13;pool 64 13;net 0 16;");
        int[] want = {1, 1 + 2, 1 + 2 + 4, 1 + 2 + 4 + 8};
        for (int length = 13; length <= 16; length++) {
            int itsLength = length;
            Edge.asked(some, want[length - 13], x -> x.capacity(itsLength));
        }
        Edge.asked(some, 0, x -> x.capacity(12));

        Edge.says(11, "INVALID_ARGUMENT if length is out of range.");
        for (int length : Edge.outside(0, 16)) {
            Edge.refused(Edge.NEW, -1, x -> x.capacity(length));
            Edge.refused(some, -1, x -> x.capacity(length));
        }
    }

    private static void promise12() {
        Edge.says(12, "Returns the fragmentation index.");
        Edge.asked(Edge.busy("pool 0 14;pool 4 14;"), 500, x -> x.fragmentation());

        Edge.says(12, "Returns 1000 minus 1000 * (size of the greatest free block) / (number of all free addresses), this "
                + "quotient rounded down;");
        Edge.asked(Edge.from("pool 0 4;"), 0, x -> x.fragmentation());
        Edge.asked(Edge.from("pool 0 4;pool 4096 4;pool 8192 4;pool 12288 4;"), 750, x -> x.fragmentation());
        // 2 of 3: 666.67 is rounded down to 666. 4 of 7: 571.4. 2048 of 4095: 500.1. 4096 of 4100: 999.02.
        Edge.asked(Edge.from("pool 0 14;net 0 16;"), 334, x -> x.fragmentation());
        Edge.asked(Edge.from("pool 0 13;net 0 16;"), 429, x -> x.fragmentation());
        Edge.asked(Edge.from("pool 0 4;net 0 16;"), 500, x -> x.fragmentation());
        Edge.asked(Edge.from("pool 4096 4;pool 0 14;"), 1, x -> x.fragmentation());
        // 4096 of 4097: 999.76 is rounded down too.
        Edge.asked(Edge.from("pool 0 14;net 0 15;net 1 16;pool 4096 4;"), 1, x -> x.fragmentation());
        // One of one.
        Edge.asked(Edge.from("pool 0 14;net 0 15;net 1 16;"), 0, x -> x.fragmentation());
        // Single addresses 1, 3, 5, .. 11 and 12 to 15: 4 of 10.
        PoolRenumberer x = new PoolRenumberer();
        x.addPool(0, 12);
        for (int network = 0; network < 12; network++) {
            x.assign(network, 16);
        }
        for (int network = 1; network < 12; network += 2) {
            x.release(network);
        }
        Edge.is(x.fragmentation(), 600);

        Edge.says(12, "0 if no address is free.");
        Edge.asked(Edge.NEW, 0, y -> y.fragmentation());
        Edge.asked(FULL_POOL, 0, y -> y.fragmentation());
    }
}
