/** The edges that the section "Terms" names for the set-up text and its error position. */
final class TextEdges {
    private static final Edge.Steps LIVELY = Edge.from("pool 1024 8;policy 1;net 3 9;host 5 3 sticky;",
            x -> x.setTimes(7, 8), x -> x.request(5), x -> x.renumber(3, 10), x -> x.pass(2));

    private TextEdges() {
    }

    static void lookAtAll() {
        length();
        poolItem();
        netItem();
        hostItem();
        policyItem();
        tokens();
        spaces();
        numbers();
        fromLeftToRight();
        byTheGrammar();
        otherCharacters();
        ranges();
        fifthPool();
        poolLengths();
        netErrors();
        hostErrors();
        endInside();
    }

    /** A text with an error, on a new object and on one with a state of its own: nothing changes. */
    private static void wrong(String text, int position) {
        Edge.refused(x -> Due.write(x, text), -10 - position, x -> x.load());
        Edge.refused(x -> {
            LIVELY.on(x);
            Due.write(x, text);
        }, -10 - position, x -> x.load());
    }

    private static void right(String text, int items) {
        Edge.loads(x -> Due.write(x, text), items, x -> x.load());
        Edge.loads(x -> {
            LIVELY.on(x);
            Due.write(x, text);
        }, items, x -> x.load());
    }

    private static PoolRenumberer loaded(String text) {
        PoolRenumberer x = new PoolRenumberer();
        LIVELY.on(x);
        Due.write(x, text);
        Due.isTrue("the set-up " + text, x.load() >= 0);
        return x;
    }

    private static void length() {
        Edge.says(0, "A set-up can be read from a text of at most 150 characters, which is built one character at a time: a sequence "
                + "of items, perhaps empty, each of which ends with \";\":");
        right("", 0);
        right(" ", 0);
        right("policy 1;", 1);
        right("policy 1;".repeat(16) + "      ", 16);
        right(" ".repeat(141) + "policy 1;", 1);
        PoolRenumberer x = new PoolRenumberer();
        Due.write(x, " ".repeat(141) + "policy 1;");
        Edge.is(x.appendCharacter(';'), -3);
        Edge.is(x.load(), 1);
        Edge.is(x.setPolicy(0), 1);
        wrong("policy 1", 8);
        wrong("policy 1;policy 2", 17);
    }

    private static void poolItem() {
        Edge.says(0, "\"pool\" BEGINNING LENGTH adds a pool");
        PoolRenumberer x = loaded("pool 61440 4;pool 0 14;pool 8 13;pool 4 14;");
        int[] begins = {61440, 0, 8, 4};
        int[] lengths = {4, 14, 13, 14};
        for (int pool = 0; pool <= 3; pool++) {
            Edge.is(x.pool(pool, 0), begins[pool]);
            Edge.is(x.pool(pool, 1), lengths[pool]);
        }
        right("pool 0 4;", 1);
        right("pool 65532 14;", 1);
    }

    private static void netItem() {
        Edge.says(0, "\"net\" NETWORK LENGTH places a block for a network that has none, by the policy as it is then");
        PoolRenumberer x = loaded("pool 32 11;pool 0 12;net 0 14;policy 1;net 1 14;policy 2;net 2 14;policy 3;net 11 14;");
        // First 0; best 4, behind it; worst 32; top the smallest with the greatest beginning, 36 to 39.
        int[] networks = {0, 1, 2, 11};
        int[] begins = {0, 4, 32, 36};
        for (int at = 0; at < 4; at++) {
            Edge.is(x.network(networks[at], 0), begins[at]);
            Edge.is(x.network(networks[at], 1), 14);
        }
        Edge.is(x.setPolicy(0), 3);
        right("pool 0 4;net 0 5;net 11 5;", 3);
        right("pool 0 14;net 11 16;", 2);
        right("pool 0 14;net 0 14;", 2);
    }

    private static void hostItem() {
        Edge.says(0, "\"host\" HOST NETWORK [ \"sticky\" ] makes a host that has no network a host of a network that has a block");
        PoolRenumberer x = loaded("pool 0 12;net 0 14;net 11 14;host 0 11;host 15 0 sticky;host 5 11;");
        int[][] want = {{0, 11, 0}, {15, 0, 1}, {5, 11, 0}};
        for (int[] host : want) {
            Edge.is(x.host(host[0], 0), host[1]);
            Edge.is(x.host(host[0], 1), host[2]);
            Edge.is(x.host(host[0], 2), -9);
        }
        Edge.is(x.network(11, 5), 2);
        Edge.is(x.count(4), 3);
        right("pool 0 12;net 0 14;host 0 0;host 15 0 sticky;", 4);
    }

    private static void policyItem() {
        Edge.says(0, "\"policy\" POLICY sets the policy");
        for (int policy = 0; policy <= 3; policy++) {
            PoolRenumberer x = loaded("policy " + (3 - policy) + ";policy " + policy + ";");
            Edge.is(x.setPolicy(0), policy);
        }
    }

    private static void tokens() {
        Edge.says(0, "Tokens are words (longest sequences of letters a to z), numbers (longest sequences of digits) and \";\".");
        right("pool 0 12;net 0 14;host 0 0 sticky;policy 3;", 4);
        // The signs beside a and z, and beside 0 and 9, belong to no token.
        wrong("policy`1;", 6);
        wrong("policy{1;", 6);
        wrong("policy 1/;", 8);
        wrong("policy 1:;", 8);
        // Words with another first, inner or last letter.
        wrong("bool 0 12;", 0);
        wrong("pbol 0 12;", 0);
        wrong("poom 0 12;", 0);
        wrong("pool 0 12;get 0 14;", 10);
        wrong("pool 0 12;nat 0 14;", 10);
        wrong("pool 0 12;new 0 14;", 10);
        wrong("pool 0 12;net 0 14;most 0 0;", 19);
        wrong("pool 0 12;net 0 14;hosp 0 0;", 19);
        wrong("pool 0 12;net 0 14;host 0 0 aticky;", 28);
        wrong("pool 0 12;net 0 14;host 0 0 sticka;", 28);
        wrong("qolicy 1;", 0);
        wrong("polica 1;", 0);
        // Words that go on are other words.
        wrong("poola 0 12;", 0);
        wrong("poolz 0 12;", 0);
        wrong("policypolicy 1;", 0);
        wrong("pools", 0);
        wrong("poo", 0);
        wrong("nets 0 14;", 0);
        wrong("ho st 0 0;", 0);
        wrong("pool 0 12;net 0 14;host 0 0 stickysticky;", 28);
        wrong("pool 0 12;net 0 14;host 0 0 s;", 28);
        // Numbers that go on are other numbers: 12 and 14 of 1214.
        wrong("pool 012;", 5);
        wrong("pool 12 1214;", 8);
        wrong("POOL 0 12;", 0);
        wrong("Pool 0 12;", 0);
        wrong("pooL 0 12;", 0);
    }

    private static void spaces() {
        Edge.says(0, "Spaces (code 32) may stand before, between and behind tokens;");
        right("   pool   0   12   ;   net   0   14   ;   host   0   0   sticky   ;   policy   3   ;   ", 4);
        wrong("\tpool 0 12;", 0);
        wrong("pool\n0 12;", 4);
        wrong("pool 0 12;\r", 10);
        wrong("pool 0 12" + (char) 160 + ";", 9);
        wrong("pool 0 12" + (char) 0 + ";", 9);
        wrong("po ol 0 12;", 0);
        wrong("pool 0 1 2;", 7);

        Edge.says(0, "they are necessary only between two words or two numbers.");
        right("pool0 12;net0 14;host0 0sticky;policy3;", 4);
        PoolRenumberer x = loaded("pool0 12;net0 14;host0 0sticky;policy3;");
        Edge.is(x.host(0, 1), 1);
        Edge.is(x.network(0, 0), 0);
        wrong("policy1", 7);
        wrong("poolpool", 0);
        wrong("pool 0;", 6);
    }

    private static void numbers() {
        Edge.says(0, "A number has at most 5 digits and no leading zeros.");
        right("pool 65532 14;", 1);
        right("policy 0;", 1);
        wrong("pool 65536 14;", 5);
        wrong("pool 99999 14;", 5);
        wrong("pool 100000 14;", 5);
        wrong("pool 000000 14;", 5);
        wrong("pool 065532 14;", 5);
        wrong("policy 00;", 7);
        wrong("policy 01;", 7);
        wrong("pool 00 12;", 5);
        wrong("pool 0 012;", 7);
        wrong("pool 0 12;net 00 14;", 14);
        wrong("pool 0 12;net 0 014;", 16);
        wrong("pool 0 12;net 0 14;host 00 0;", 24);
        wrong("pool 0 12;net 0 14;host 0 00;", 26);
        // 2 to the power of 32, and of 64, plus a number that is in the range: no wrap-around.
        wrong("policy 4294967297;", 7);
        wrong("policy 4294967296;", 7);
        wrong("policy 18446744073709551617;", 7);
        wrong("policy " + "9".repeat(143), 7);
        wrong("policy " + "0".repeat(143), 7);
        wrong("pool 4294971392 4;", 5);
        // What would be a minus sign is another character.
        wrong("policy -1;", 7);
        wrong("policy +1;", 7);
    }

    private static void fromLeftToRight() {
        Edge.says(0, "The text is read from left to right, beginning with no pools, networks and hosts, and with the policy 0.");
        // The object has the pool 1024 to 1279, network 3, host 5 and the policy 1, which the text does not see.
        right("pool 1024 8;net 3 9;host 5 3;", 3);
        PoolRenumberer x = loaded("pool 64 12;pool 0 12;net 3 14;host 5 3;");
        Edge.is(x.network(3, 0), 0);
        Edge.is(x.host(5, 1), 0);
        Edge.is(x.setPolicy(0), 0);
        wrong("net 0 16;", 6);
        wrong("pool 0 12;host 0 3;", 17);
        // What stands behind has no effect on what stands before it.
        wrong("net 0 14;pool 0 12;", 6);
        wrong("pool 0 12;host 0 0;net 0 14;", 17);
        x = loaded("pool 64 14;net 0 16;pool 0 14;policy 3;");
        Edge.is(x.network(0, 0), 64);
        // Only the first error counts.
        wrong("pool 2 14;pool 0 3;x", 7);
        wrong("policy 1;?policy 4;", 9);
    }

    private static void byTheGrammar() {
        Edge.says(0, "The error position is the offset (from 0) of the first character of the first token that is not allowed where it "
                + "stands: by the grammar;");
        // In place of an item.
        wrong(";", 0);
        wrong("  ;", 2);
        wrong("0", 0);
        wrong("12345", 0);
        wrong("sticky;", 0);
        wrong("x", 0);
        wrong("policy 1;;", 9);
        wrong("policy 1;1;", 9);
        wrong("policy 1;sticky;", 9);
        wrong("policy 1; x", 10);
        // In place of a number.
        String[] items = {"pool", "pool 0", "pool 0 12;net", "pool 0 12;net 0", "pool 0 12;net 0 14;host",
            "pool 0 12;net 0 14;host 0", "policy"};
        for (String item : items) {
            int behind = item.length() + 1;
            wrong(item + " ;", behind);
            wrong(item + " pool", behind);
            wrong(item + " sticky;", behind);
            wrong(item + " x;", behind);
            wrong(item + ";", behind - 1);
        }
        // In place of the semicolon.
        String[] whole = {"pool 0 12", "pool 0 12;net 0 14", "pool 0 12;net 0 14;host 0 0 sticky", "policy 1"};
        for (String item : whole) {
            int behind = item.length() + 1;
            wrong(item + " 0;", behind);
            wrong(item + " policy 1;", behind);
            wrong(item + " sticky;", behind);
            wrong(item + " x;", behind);
        }
        wrong("pool 0 12;net 0 14;host 0 0 0;", 28);
        wrong("pool 0 12;net 0 14;host 0 0 host 1 0;", 28);
        wrong("pool 0 12;net 0 14;host 0 0 stick;", 28);
    }

    private static void otherCharacters() {
        Edge.says(0, "any other character;");
        for (int sign = 0; sign <= 255; sign++) {
            boolean known = sign == ' ' || sign == ';' || sign >= '0' && sign <= '9' || sign >= 'a' && sign <= 'z';
            if (!known) {
                char some = (char) sign;
                PoolRenumberer x = new PoolRenumberer();
                Due.write(x, "policy 1;" + some);
                Edge.is(x.load(), -19);
                x.clearText();
                Due.write(x, "policy" + some + "1;");
                Edge.is(x.load(), -16);
                x.clearText();
                Due.write(x, "policy 1" + some + ";");
                Edge.is(x.load(), -18);
            }
        }
        wrong("?", 0);
        wrong("policy 1,", 8);
        wrong("pool,0 12;", 4);
        wrong("pool 0.5 12;", 6);
    }

    private static void ranges() {
        Edge.says(0, "a number out of its range (as for the methods addPool(), assign(), addHost() and setPolicy());");
        wrong("pool 65536 14;", 5);
        wrong("pool 0 3;", 7);
        wrong("pool 0 15;", 7);
        wrong("pool 0 0;", 7);
        wrong("pool 0 36;", 7);
        right("pool 0 4;", 1);
        right("pool 0 14;", 1);
        wrong("pool 0 4;net 12 5;", 13);
        wrong("pool 0 4;net 0 4;", 15);
        wrong("pool 0 4;net 0 17;", 15);
        wrong("pool 0 4;net 0 37;", 15);
        right("pool 0 4;net 11 5;", 2);
        right("pool 0 4;net 0 16;", 2);
        wrong("pool 0 4;net 0 16;host 16 0;", 23);
        wrong("pool 0 4;net 0 16;host 0 12;", 25);
        right("pool 0 4;net 11 16;host 15 11;", 3);
        wrong("policy 4;", 7);
        wrong("policy 99999;", 7);
        right("policy 3;", 1);
        right("policy 0;", 1);
    }

    private static void fifthPool() {
        Edge.says(0, "the word \"pool\" of a fifth pool;");
        String four = "pool 0 14;pool 4 14;pool 8 14;pool 12 14;";
        right(four, 4);
        wrong(four + "pool 16 14;", 41);
        wrong(four + "  pool", 43);
        wrong(four + "pool", 41);
        // Its numbers are wrong too, but the word stands before them.
        wrong(four + "pool 0 14;", 41);
        wrong(four + "pool x", 41);
        // The longest sequence of letters is another word, at the same place.
        wrong(four + "pools 16 14;", 41);
        right(four + "net 0 14;policy 1;", 6);
        wrong(four + "net 0 14;pool 16 14;", 50);
    }

    private static void poolLengths() {
        Edge.says(0, "a LENGTH with which a pool would not be a block or would have an address in common with another one;");
        wrong("pool 2 14;", 7);
        wrong("pool 65535 14;", 11);
        wrong("pool 65534 14;", 11);
        wrong("pool 2048 4;", 10);
        wrong("pool 61444 4;", 11);
        right("pool 61440 4;", 1);
        wrong("pool 0 12;pool 0 12;", 17);
        wrong("pool 0 12;pool 0 14;", 17);
        wrong("pool 0 12;pool 12 14;", 18);
        wrong("pool 12 14;pool 0 12;", 18);
        wrong("pool 16 12;pool 0 11;", 18);
        right("pool 16 12;pool 0 12;", 2);
        right("pool 16 12;pool 32 11;", 2);
        // With the first and with the last of three others.
        wrong("pool 0 14;pool 4 14;pool 8 14;pool 0 14;", 37);
        wrong("pool 0 14;pool 4 14;pool 8 14;pool 8 14;", 37);
        // Out of range, and no block: the same token.
        wrong("pool 2 3;", 7);
        wrong("pool 2 15;", 7);
    }

    private static void netErrors() {
        Edge.says(0, "a NETWORK of \"net\" that has a block already, and its LENGTH if the block cannot be placed;");
        wrong("pool 0 12;net 0 14;net 0 14;", 23);
        wrong("pool 0 12;net 11 14;net 11 14;", 24);
        // The LENGTH would be wrong too, or is missing.
        wrong("pool 0 12;net 0 14;net 0 4;", 23);
        wrong("pool 0 12;net 0 14;net 0", 23);
        wrong("pool 0 12;net 0 14;net 0;", 23);
        wrong("net 0 16;", 6);
        wrong("pool 0 12;net 0 11;", 16);
        right("pool 0 12;net 0 12;", 2);
        wrong("pool 0 12;net 0 12;net 1 16;", 25);
        wrong("pool 0 14;net 0 16;net 1 14;", 25);
        wrong("pool 0 14;pool 4 14;net 0 13;", 26);
        wrong("pool 0 12;net 0 13;net 1 13;net 2 16;", 34);
    }

    private static void hostErrors() {
        Edge.says(0, "a HOST that belongs to a network already, and a NETWORK of \"host\" without a block.");
        String start = "pool 0 12;net 0 14;net 1 14;";
        wrong(start + "host 0 0;host 0 0;", 42);
        wrong(start + "host 0 0;host 0 1;", 42);
        wrong(start + "host 0 0 sticky;host 0 0 sticky;", 49);
        wrong(start + "host 15 0;host 15 1;", 43);
        // The NETWORK would be wrong too, or is missing.
        wrong(start + "host 0 0;host 0 2;", 42);
        wrong(start + "host 0 0;host 0", 42);
        wrong(start + "host 0 2;", 35);
        wrong(start + "host 0 11 sticky;", 35);
        wrong(start + "host 0 2", 35);
        wrong("host 0 0;", 7);
        right(start + "host 0 0;host 1 0;host 2 1;", 6);
    }

    private static void endInside() {
        Edge.says(0, "If the text ends inside of an item, the error position is the length of the text.");
        String[] items = {"pool", "pool 0", "pool 0 12", "pool 0 12;net", "pool 0 12;net 0", "pool 0 12;net 0 14",
            "pool 0 12;net 0 14;host", "pool 0 12;net 0 14;host 0", "pool 0 12;net 0 14;host 0 0",
            "pool 0 12;net 0 14;host 0 0 sticky", "policy", "policy 3"};
        for (String item : items) {
            wrong(item, item.length());
            wrong(item + " ", item.length() + 1);
            wrong(item + "   ", item.length() + 3);
            wrong("  " + item, item.length() + 2);
            wrong(item + " ".repeat(150 - item.length()), 150);
            wrong(" ".repeat(150 - item.length()) + item, 150);
        }
    }
}
