import java.util.Random;

/** Runs of calls and texts to load, drawn from fixed seeds, on the class and on the Model: every answer is the same. */
public final class ModelTest {
    private static final int RUNS = 160;
    private static final int CALLS = 512;
    /** Texts for each run: far more than the runs themselves load. */
    private static final int TEXTS = 20;

    private final Random random;
    private final PoolRenumberer x = new PoolRenumberer();
    private final Model m = new Model();
    private final StringBuilder told = new StringBuilder();
    /** Small pools fill up, great ones show the lengths. */
    private final int shortestPool;
    private final boolean manyErrors;
    private boolean failed;

    private ModelTest(int seed) {
        random = new Random(seed);
        shortestPool = Math.floorMod(seed, 3) == 0 ? 4 : Math.floorMod(seed, 3) == 1 ? 9 : 11;
        manyErrors = seed % 5 == 0;
    }

    public static void main(String[] args) {
        int runs = args.length > 0 ? Integer.parseInt(args[0]) : RUNS;
        int from = args.length > 1 ? Integer.parseInt(args[1]) : 0;
        for (int seed = from; seed < from + runs && !Due.anyWrong(); seed++) {
            new ModelTest(seed).run();
            for (int text = 0; text < TEXTS && !Due.anyWrong(); text++) {
                new ModelTest(-1 - seed * TEXTS - text).loadOne();
            }
        }
        Due.end();
    }

    private void run() {
        for (int call = 0; call < CALLS && !failed; call++) {
            step();
            if (call % 32 == 31) {
                look();
            }
        }
        if (failed) {
            System.out.println(told);
        }
    }

    /** A text on a new object, and what it has set up. */
    private void loadOne() {
        text();
        look();
        int policy = number(0, 3);
        due("setPolicy(" + policy + ")", x.setPolicy(policy), m.setPolicy(policy));
        due("clearText()", x.clearText(), m.clearText());
        if (failed) {
            System.out.println(told);
        }
    }

    private void due(String call, int got, int want) {
        told.append(call).append(" = ").append(got).append('\n');
        Due.is(call, got, want);
        failed = failed || got != want;
    }

    private int below(int bound) {
        return random.nextInt(bound);
    }

    /** Mostly from least to most, at times just outside of it or anywhere. */
    private int number(int least, int most) {
        if (below(manyErrors ? 10 : 60) == 0) {
            int[] odd = {least - 1, most + 1, Integer.MIN_VALUE, Integer.MAX_VALUE, random.nextInt(), -1};
            return odd[below(odd.length)];
        }
        return least + below(most - least + 1);
    }

    private int network() {
        return number(0, below(3) == 0 ? 11 : 5);
    }

    private int host() {
        for (int tries = below(3) == 0 ? 0 : 12; tries > 0; tries--) {
            int h = below(16);
            if (m.host(h, 0) >= 0) {
                return h;
            }
        }
        return number(0, below(3) == 0 ? 15 : 6);
    }

    private int length() {
        int least = below(4) == 0 ? 5 : Math.min(shortestPool + 1, 14);
        return number(least, 16);
    }

    private int poolBegin(int length) {
        int size = length >= 0 && length <= 16 ? 1 << (16 - length) : 1;
        int begin = below(5) == 0 ? below(65536) : below(6) * size;
        return below(8) == 0 ? begin : begin / size * size % 65536;
    }

    private int address() {
        for (int tries = below(2) * 16; tries > 0; tries--) {
            int leased = m.host(below(16), 2 + 2 * below(2));
            if (leased >= 0) {
                return leased;
            }
        }
        int p = below(4);
        if (m.pool(p, 0) >= 0 && below(10) > 0) {
            int reach = below(2) == 0 ? 64 : 1 << (16 - m.pool(p, 1));
            return m.pool(p, 0) + below(reach);
        }
        return number(0, 65535);
    }

    private void step() {
        int kind = below(100);
        if (kind < 14) {
            assignOrRelease(below(5));
        } else if (kind < 30) {
            renumberOrWave(below(6));
        } else if (kind < 55) {
            hosts(below(9));
        } else if (kind < 64) {
            times(below(4));
        } else if (kind < 72) {
            pools(below(6));
        } else if (kind < 76) {
            undo();
        } else if (kind < 77) {
            text();
        } else if (kind < 78) {
            scatter();
        } else if (kind < 86) {
            plans(below(5));
        } else {
            questions(below(12));
        }
    }

    private void assignOrRelease(int which) {
        int n = network();
        int length = length();
        if (which < 4) {
            due("assign(" + n + ", " + length + ")", x.assign(n, length), m.assign(n, length));
        } else {
            due("release(" + n + ")", x.release(n), m.release(n));
        }
    }

    private void renumberOrWave(int which) {
        int n = network();
        int length = below(2) == 0 && n >= 0 && n < 12 && m.network(n, 1) > 0 ? m.network(n, 1) : length();
        int count = number(1, 12);
        if (which < 2) {
            due("renumber(" + n + ", " + length + ")", x.renumber(n, length), m.renumber(n, length));
        } else if (which < 4) {
            int near = length + below(3) - 1;
            due("resize(" + n + ", " + near + ")", x.resize(n, near), m.resize(n, near));
        } else {
            due("wave(" + count + ")", x.wave(count), m.wave(count));
        }
    }

    private void hosts(int which) {
        int h = host();
        int n = network();
        int sticky = number(0, 1);
        if (which < 3) {
            due("addHost(" + h + ", " + n + ", " + sticky + ")", x.addHost(h, n, sticky), m.addHost(h, n, sticky));
        } else if (which < 8) {
            due("request(" + h + ")", x.request(h), m.request(h));
        } else {
            due("removeHost(" + h + ")", x.removeHost(h), m.removeHost(h));
        }
    }

    private void times(int which) {
        if (which == 0) {
            int lease = number(1, below(2) == 0 ? 500 : 20);
            int overlap = below(4) == 0 ? 0 : number(0, below(2) == 0 ? 500 : 20);
            due("setTimes(" + lease + ", " + overlap + ")", x.setTimes(lease, overlap), m.setTimes(lease, overlap));
            return;
        }
        int duration = number(1, below(20) == 0 ? 1000 : 25);
        due("pass(" + duration + ")", x.pass(duration), m.pass(duration));
    }

    private void pools(int which) {
        int length = number(Math.min(shortestPool, 14), Math.min(shortestPool + 3, 14));
        int begin = poolBegin(length);
        int p = number(0, 3);
        int policy = number(0, 3);
        if (which < 3) {
            due("addPool(" + begin + ", " + length + ")", x.addPool(begin, length), m.addPool(begin, length));
        } else if (which == 3) {
            due("removePool(" + p + ")", x.removePool(p), m.removePool(p));
        } else {
            due("setPolicy(" + policy + ")", x.setPolicy(policy), m.setPolicy(policy));
        }
    }

    private void undo() {
        int times = below(4) == 0 ? below(7) : 1;
        for (int turn = 0; turn < times; turn++) {
            due("undo()", x.undo(), m.undo());
        }
    }

    private void plans(int which) {
        int n = network();
        int moves = number(1, 12);
        if (which < 3) {
            due("fragmentationAfter(" + n + ")", x.fragmentationAfter(n), m.fragmentationAfter(n));
        } else if (which == 3) {
            due("bestMove()", x.bestMove(), m.bestMove());
        } else {
            due("makePlan(" + moves + ")", x.makePlan(moves), m.makePlan(moves));
        }
    }

    /** Leaves holes behind, so that moves help and waves have something to do. */
    private void scatter() {
        int length = number(13, 16);
        for (int n = 0; n < 12; n++) {
            int some = below(3) == 0 ? number(12, 16) : length;
            due("assign(" + n + ", " + some + ")", x.assign(n, some), m.assign(n, some));
        }
        for (int turn = 0; turn < 6; turn++) {
            int n = below(12);
            due("release(" + n + ")", x.release(n), m.release(n));
        }
        int policy = below(4);
        due("setPolicy(" + policy + ")", x.setPolicy(policy), m.setPolicy(policy));
        due("makePlan(12)", x.makePlan(12), m.makePlan(12));
        due("bestMove()", x.bestMove(), m.bestMove());
    }

    private void questions(int which) {
        int a = address();
        int n = network();
        int what = number(0, 5);
        int length = number(0, 16);
        switch (which) {
            case 0:
                due("owner(" + a + ")", x.owner(a), m.owner(a));
                break;
            case 1:
                due("leaseOf(" + a + ")", x.leaseOf(a), m.leaseOf(a));
                break;
            case 2:
                due("network(" + n + ", " + what + ")", x.network(n, what), m.network(n, what));
                break;
            case 3:
                due("host(" + n + ", " + what + ")", x.host(n, what), m.host(n, what));
                break;
            case 4:
                due("pool(" + n + ", " + what + ")", x.pool(n, what), m.pool(n, what));
                break;
            case 5:
                due("freeBlocks(" + length + ")", x.freeBlocks(length), m.freeBlocks(length));
                break;
            case 6:
                due("capacity(" + length + ")", x.capacity(length), m.capacity(length));
                break;
            case 7:
                due("count(" + length + ")", x.count(length), m.count(length));
                break;
            case 8:
                due("route(" + n + ", " + what + ")", x.route(n, what), m.route(n, what));
                break;
            case 9:
                due("plan(" + n + ", " + what + ")", x.plan(n, what), m.plan(n, what));
                break;
            case 10:
                due("fragmentation()", x.fragmentation(), m.fragmentation());
                break;
            default:
                due("largestFree()", x.largestFree(), m.largestFree());
        }
    }

    private void text() {
        String written = setUp();
        for (int i = 0; i < written.length(); i++) {
            int c = written.charAt(i);
            due("appendCharacter(" + c + ")", x.appendCharacter(c), m.appendCharacter(c));
        }
        due("load()", x.load(), m.load());
        if (below(3) > 0) {
            due("clearText()", x.clearText(), m.clearText());
        }
    }

    private String setUp() {
        StringBuilder s = new StringBuilder();
        int items = below(10);
        for (int item = 0; item < items; item++) {
            item(s, item == 0 || item == 1 && below(2) == 0 ? 0 : 2 + below(7), item);
        }
        for (int change = below(4) == 0 ? 1 + below(3) : 0; change > 0 && s.length() > 0; change--) {
            String signs = "; 0129apnhst{/:`" + (char) below(256);
            int at = below(s.length());
            if (below(2) == 0) {
                s.setCharAt(at, signs.charAt(below(signs.length())));
            } else if (below(2) == 0) {
                s.deleteCharAt(at);
            } else {
                s.insert(at, signs.charAt(below(signs.length())));
            }
        }
        if (below(12) == 0) {
            s.setLength(below(s.length() + 1));
        }
        return s.toString();
    }

    private void item(StringBuilder s, int kind, int turn) {
        String gap = below(4) == 0 ? "  " : " ";
        String little = below(3) == 0 ? " " : "";
        s.append(little);
        if (kind < 2) {
            int length = number(Math.min(shortestPool, 14), 14);
            s.append("pool").append(gap).append(poolBegin(length)).append(gap).append(length);
        } else if (kind < 3) {
            s.append("policy").append(little).append(number(0, 3));
        } else if (kind < 6) {
            s.append("net").append(little).append(below(6) == 0 ? network() : turn).append(gap).append(length());
        } else {
            s.append("host").append(little).append(below(6) == 0 ? host() : turn).append(gap).append(below(turn + 1));
            s.append(below(2) == 0 ? "" : little + "sticky");
        }
        s.append(little).append(';');
    }

    /** Looks at all that can be seen. */
    private void look() {
        for (int what = 0; what <= 8; what++) {
            due("count(" + what + ")", x.count(what), m.count(what));
        }
        for (int what = 0; what <= 5; what++) {
            for (int n = 0; n < 12; n++) {
                due("network(" + n + ", " + what + ")", x.network(n, what), m.network(n, what));
            }
            for (int h = 0; h < 16; h++) {
                due("host(" + h + ", " + what + ")", x.host(h, what), m.host(h, what));
            }
        }
        for (int p = 0; p < 4; p++) {
            for (int what = 0; what <= 3; what++) {
                due("pool(" + p + ", " + what + ")", x.pool(p, what), m.pool(p, what));
            }
        }
        for (int length = 0; length <= 16; length++) {
            due("freeBlocks(" + length + ")", x.freeBlocks(length), m.freeBlocks(length));
        }
        due("nextEvent()", x.nextEvent(), m.nextEvent());
        due("routeCount()", x.routeCount(), m.routeCount());
        for (int r = 0; r < m.routeCount(); r++) {
            due("route(" + r + ", 0)", x.route(r, 0), m.route(r, 0));
            due("route(" + r + ", 1)", x.route(r, 1), m.route(r, 1));
        }
        for (int move = 0; move < 12; move++) {
            for (int part = 0; part < 3; part++) {
                due("plan(" + move + ", " + part + ")", x.plan(move, part), m.plan(move, part));
            }
        }
    }
}
