import java.util.ArrayDeque;
import java.util.ArrayList;
import java.util.Arrays;
import java.util.Comparator;
import java.util.Deque;
import java.util.List;
import java.util.regex.Matcher;
import java.util.regex.Pattern;

/**
 * The document told a second time, as literally and as dearly as it goes: a map of all addresses instead of gaps,
 * every block looked at instead of the greatest one found. ModelTest compares the class with it.
 */
final class Model {
    static final class Block {
        final int begin;
        final int length;

        Block(int begin, int length) {
            this.begin = begin;
            this.length = length;
        }

        int size() {
            return (int) Math.pow(2, 16 - length);
        }

        boolean has(int address) {
            return address >= begin && address <= begin + size() - 1;
        }

        boolean leasable(int address) {
            if (!has(address)) {
                return false;
            }
            return size() < 4 || address > begin && address < begin + size() - 1;
        }
    }

    static final class Lease {
        final int address;
        final int until;

        Lease(int address, int until) {
            this.address = address;
            this.until = until;
        }
    }

    static final class World {
        List<Block> pools = new ArrayList<>();
        Block[] current = new Block[12];
        Block[] old = new Block[12];
        int[] overlapEnd = new int[12];
        int[] member = new int[16];
        boolean[] sticky = new boolean[16];
        Lease[] fresh = new Lease[16];
        Lease[] stale = new Lease[16];
        int policy;
        int time;
        int leaseTime = 60;
        int overlapTime = 100;
        int cut;

        World() {
            Arrays.fill(member, -1);
        }

        World copy() {
            World w = new World();
            w.pools = new ArrayList<>(pools);
            w.current = current.clone();
            w.old = old.clone();
            w.overlapEnd = overlapEnd.clone();
            w.member = member.clone();
            w.sticky = sticky.clone();
            w.fresh = fresh.clone();
            w.stale = stale.clone();
            w.policy = policy;
            w.time = time;
            w.leaseTime = leaseTime;
            w.overlapTime = overlapTime;
            w.cut = cut;
            return w;
        }

        int[] owners() {
            int[] owners = new int[65536];
            Arrays.fill(owners, -1);
            for (int n = 0; n < 12; n++) {
                for (Block b : new Block[] {current[n], old[n]}) {
                    if (b != null) {
                        Arrays.fill(owners, b.begin, b.begin + b.size(), n);
                    }
                }
            }
            return owners;
        }

        /** Sums of assigned addresses below each one. */
        int[] sums() {
            int[] owners = owners();
            int[] sums = new int[65537];
            for (int a = 0; a < 65536; a++) {
                sums[a + 1] = sums[a] + (owners[a] >= 0 ? 1 : 0);
            }
            return sums;
        }

        List<Block> freeOf(Block pool, int[] sums) {
            List<Block> free = new ArrayList<>();
            for (int length = pool.length; length <= 16; length++) {
                int size = 1 << (16 - length);
                for (int begin = pool.begin; begin < pool.begin + pool.size(); begin += size) {
                    int parent = begin - begin % (2 * size);
                    boolean within = length > pool.length && sums[parent + 2 * size] - sums[parent] == 0;
                    if (sums[begin + size] - sums[begin] == 0 && !within) {
                        free.add(new Block(begin, length));
                    }
                }
            }
            return free;
        }

        List<Block> free() {
            int[] sums = sums();
            List<Block> free = new ArrayList<>();
            for (Block pool : pools) {
                free.addAll(freeOf(pool, sums));
            }
            return free;
        }

        Block place(int length) {
            Comparator<Block> order;
            Comparator<Block> byBegin = Comparator.comparingInt(b -> b.begin);
            Comparator<Block> bySize = Comparator.comparingInt(Block::size);
            if (policy == 0) {
                order = byBegin;
            } else if (policy == 1) {
                order = bySize.thenComparing(byBegin);
            } else if (policy == 2) {
                order = bySize.reversed().thenComparing(byBegin);
            } else {
                order = bySize.thenComparing(byBegin.reversed());
            }
            Block wanted = new Block(0, length);
            return free().stream().filter(b -> b.size() >= wanted.size()).min(order)
                    .map(b -> new Block(policy == 3 ? b.begin + b.size() - wanted.size() : b.begin, length))
                    .orElse(null);
        }

        int index() {
            List<Block> free = free();
            int all = free.stream().mapToInt(Block::size).sum();
            int greatest = free.stream().mapToInt(Block::size).max().orElse(0);
            return all == 0 ? 0 : 1000 - (int) Math.floor(1000.0 * greatest / all);
        }

        void renumber(int n, Block placed) {
            old[n] = current[n];
            overlapEnd[n] = time + overlapTime;
            current[n] = placed;
            for (int h = 0; h < 16; h++) {
                if (member[h] == n) {
                    stale[h] = fresh[h];
                    fresh[h] = null;
                }
            }
            if (overlapTime == 0) {
                giveUp(n);
            }
        }

        int giveUp(int n) {
            int removed = 0;
            for (int h = 0; h < 16; h++) {
                if (stale[h] != null && old[n].has(stale[h].address)) {
                    stale[h] = null;
                    removed++;
                }
            }
            cut += removed;
            old[n] = null;
            return removed;
        }

        int holder(int address) {
            for (int h = 0; h < 16; h++) {
                if (fresh[h] != null && fresh[h].address == address || stale[h] != null && stale[h].address == address) {
                    return h;
                }
            }
            return -9;
        }

        int hostsOf(int n) {
            return (int) Arrays.stream(member).filter(m -> m == n).count();
        }

        World moved(int n) {
            Block placed = place(current[n].length);
            if (placed == null) {
                return null;
            }
            World w = copy();
            w.current[n] = placed;
            return w;
        }

        int best() {
            int best = -9;
            int bestIndex = index();
            for (int n = 0; n < 12; n++) {
                if (current[n] == null || old[n] != null) {
                    continue;
                }
                World w = moved(n);
                if (w != null && w.index() < bestIndex) {
                    best = n;
                    bestIndex = w.index();
                }
            }
            return best;
        }
    }

    private World w = new World();
    private final Deque<World> saved = new ArrayDeque<>();
    private String text = "";
    private List<int[]> plan = new ArrayList<>();

    private void save() {
        saved.addLast(w.copy());
        if (saved.size() > 6) {
            saved.removeFirst();
        }
    }

    private static boolean out(int value, int least, int most) {
        return value < least || value > most;
    }

    int appendCharacter(int c) {
        if (out(c, 0, 255)) {
            return -1;
        }
        if (text.length() == 150) {
            return -3;
        }
        text += (char) c;
        return text.length();
    }

    int clearText() {
        int length = text.length();
        text = "";
        return length;
    }

    /** The tokens with their offsets; what is no token is a token of one character. */
    private static final Pattern TOKEN = Pattern.compile("[a-z]+|[0-9]+|[^ ]", Pattern.DOTALL);

    private static final class Wrong extends Exception {
        private static final long serialVersionUID = 1;
        final int position;

        Wrong(int position) {
            this.position = position;
        }
    }

    private List<String> tokens;
    private List<Integer> offsets;
    private int at;

    private String take() throws Wrong {
        if (at == tokens.size()) {
            throw new Wrong(text.length());
        }
        return tokens.get(at++);
    }

    private Wrong wrong() {
        return new Wrong(offsets.get(at - 1));
    }

    private int number(int least, int most) throws Wrong {
        String token = take();
        if (!token.matches("0|[1-9][0-9]{0,4}") || out(Integer.parseInt(token), least, most)) {
            throw wrong();
        }
        return Integer.parseInt(token);
    }

    int load() {
        tokens = new ArrayList<>();
        offsets = new ArrayList<>();
        at = 0;
        Matcher matcher = TOKEN.matcher(text);
        while (matcher.find()) {
            tokens.add(matcher.group());
            offsets.add(matcher.start());
        }
        World target = new World();
        int items = 0;
        try {
            while (at < tokens.size()) {
                item(target);
                items++;
            }
        } catch (Wrong e) {
            return -10 - e.position;
        }
        save();
        w = target;
        text = "";
        return items;
    }

    private void item(World target) throws Wrong {
        String word = take();
        if (word.equals("pool")) {
            if (target.pools.size() == 4) {
                throw wrong();
            }
            int begin = number(0, 65535);
            int length = number(4, 14);
            if (!poolFits(target, begin, length)) {
                throw wrong();
            }
            target.pools.add(new Block(begin, length));
        } else if (word.equals("net")) {
            int n = number(0, 11);
            if (target.current[n] != null) {
                throw wrong();
            }
            Block placed = target.place(number(5, 16));
            if (placed == null) {
                throw wrong();
            }
            target.current[n] = placed;
        } else if (word.equals("host")) {
            int h = number(0, 15);
            if (target.member[h] >= 0) {
                throw wrong();
            }
            int n = number(0, 11);
            if (target.current[n] == null) {
                throw wrong();
            }
            target.member[h] = n;
            if (at < tokens.size() && tokens.get(at).equals("sticky")) {
                take();
                target.sticky[h] = true;
            }
        } else if (word.equals("policy")) {
            target.policy = number(0, 3);
        } else {
            throw wrong();
        }
        if (!take().equals(";")) {
            throw wrong();
        }
    }

    private static boolean poolFits(World target, int begin, int length) {
        Block pool = new Block(begin, length);
        return begin % pool.size() == 0 && !common(target, pool);
    }

    private static boolean common(World target, Block pool) {
        for (Block other : target.pools) {
            for (int a = other.begin; a < other.begin + other.size(); a++) {
                if (pool.has(a)) {
                    return true;
                }
            }
        }
        return false;
    }

    int addPool(int begin, int length) {
        if (out(begin, 0, 65535) || out(length, 4, 14) || begin % new Block(begin, length).size() != 0) {
            return -1;
        }
        if (common(w, new Block(begin, length))) {
            return -2;
        }
        if (w.pools.size() == 4) {
            return -3;
        }
        save();
        w.pools.add(new Block(begin, length));
        return w.pools.size() - 1;
    }

    int removePool(int p) {
        if (out(p, 0, w.pools.size() - 1)) {
            return -1;
        }
        Block pool = w.pools.get(p);
        int[] sums = w.sums();
        if (sums[pool.begin + pool.size()] != sums[pool.begin]) {
            return -2;
        }
        save();
        w.pools.remove(p);
        return w.pools.size();
    }

    int setPolicy(int policy) {
        if (out(policy, 0, 3)) {
            return -1;
        }
        save();
        int previous = w.policy;
        w.policy = policy;
        return previous;
    }

    int pool(int p, int what) {
        if (out(p, 0, w.pools.size() - 1) || out(what, 0, 3)) {
            return -1;
        }
        Block pool = w.pools.get(p);
        int[] sums = w.sums();
        switch (what) {
            case 0:
                return pool.begin;
            case 1:
                return pool.length;
            case 2:
                return pool.size() - (sums[pool.begin + pool.size()] - sums[pool.begin]);
            default:
                return w.freeOf(pool, sums).size();
        }
    }

    int freeBlocks(int length) {
        return out(length, 0, 16) ? -1 : (int) w.free().stream().filter(b -> b.length == length).count();
    }

    int largestFree() {
        return w.free().stream().mapToInt(b -> b.length).min().orElse(-9);
    }

    /** By placing one after the other, unless that takes too long. */
    int capacity(int length) {
        if (out(length, 0, 16)) {
            return -1;
        }
        return w.free().stream().mapToInt(b -> b.size() / new Block(0, length).size()).sum();
    }

    int fragmentation() {
        return w.index();
    }

    int assign(int n, int length) {
        if (out(n, 0, 11) || out(length, 5, 16)) {
            return -1;
        }
        if (w.current[n] != null) {
            return -2;
        }
        Block placed = w.place(length);
        if (placed == null) {
            return -3;
        }
        save();
        w.current[n] = placed;
        return placed.begin;
    }

    int release(int n) {
        if (out(n, 0, 11)) {
            return -1;
        }
        if (w.current[n] == null) {
            return -2;
        }
        for (int h = 0; h < 16; h++) {
            if (w.member[h] == n && (w.fresh[h] != null || w.stale[h] != null)) {
                return -2;
            }
        }
        save();
        int hosts = w.hostsOf(n);
        for (int h = 0; h < 16; h++) {
            if (w.member[h] == n) {
                w.member[h] = -1;
            }
        }
        w.current[n] = null;
        w.old[n] = null;
        return hosts;
    }

    int resize(int n, int length) {
        if (out(n, 0, 11) || out(length, 5, 16)) {
            return -1;
        }
        Block present = w.current[n];
        if (present == null || present.length == length) {
            return -2;
        }
        int size = new Block(0, length).size();
        Block next = new Block(present.begin / size * size, length);
        if (length < present.length) {
            if (w.pools.stream().noneMatch(p -> p.has(next.begin) && p.has(next.begin + next.size() - 1))) {
                return -2;
            }
            int[] owners = w.owners();
            for (int a = next.begin; a < next.begin + next.size(); a++) {
                if (!present.has(a) && owners[a] >= 0) {
                    return -2;
                }
            }
        } else if (next.begin != present.begin) {
            throw new IllegalStateException("a smaller block begins with the present one");
        }
        for (int h = 0; h < 16; h++) {
            if (w.member[h] == n && w.fresh[h] != null && !next.leasable(w.fresh[h].address)) {
                return -2;
            }
        }
        save();
        w.current[n] = next;
        return next.begin;
    }

    int renumber(int n, int length) {
        if (out(n, 0, 11) || out(length, 5, 16)) {
            return -1;
        }
        if (w.current[n] == null || w.old[n] != null) {
            return -2;
        }
        Block placed = w.place(length);
        if (placed == null) {
            return -3;
        }
        save();
        w.renumber(n, placed);
        return placed.begin;
    }

    int wave(int count) {
        if (out(count, 1, 12)) {
            return -1;
        }
        List<Integer> order = new ArrayList<>();
        for (int n = 0; n < 12; n++) {
            if (w.current[n] != null && w.old[n] == null) {
                order.add(n);
            }
        }
        World before = w.copy();
        order.sort(Comparator.comparingInt(n -> -before.current[n].begin));
        int moved = 0;
        for (int n : order) {
            if (moved == count) {
                break;
            }
            Block placed = w.place(w.current[n].length);
            if (placed != null && placed.begin < w.current[n].begin) {
                w.renumber(n, placed);
                moved++;
            }
        }
        if (moved == 0) {
            return -2;
        }
        World after = w;
        w = before;
        save();
        w = after;
        return moved;
    }

    int network(int n, int what) {
        if (out(n, 0, 11) || out(what, 0, 5)) {
            return -1;
        }
        if (what == 5) {
            return w.hostsOf(n);
        }
        Block b = what < 2 ? w.current[n] : w.old[n];
        if (b == null) {
            return -9;
        }
        return what == 4 ? w.overlapEnd[n] : what % 2 == 0 ? b.begin : b.length;
    }

    int owner(int address) {
        if (out(address, 0, 65535)) {
            return -1;
        }
        int owner = w.owners()[address];
        return owner < 0 ? -9 : owner;
    }

    int addHost(int h, int n, int sticky) {
        if (out(h, 0, 15) || out(n, 0, 11) || out(sticky, 0, 1)) {
            return -1;
        }
        if (w.member[h] >= 0 || w.current[n] == null) {
            return -2;
        }
        save();
        w.member[h] = n;
        w.sticky[h] = sticky == 1;
        return w.hostsOf(n);
    }

    int removeHost(int h) {
        if (out(h, 0, 15)) {
            return -1;
        }
        if (w.member[h] < 0) {
            return -2;
        }
        save();
        int leases = (w.fresh[h] == null ? 0 : 1) + (w.stale[h] == null ? 0 : 1);
        w.member[h] = -1;
        w.fresh[h] = null;
        w.stale[h] = null;
        return leases;
    }

    int request(int h) {
        if (out(h, 0, 15)) {
            return -1;
        }
        int n = w.member[h];
        if (n < 0) {
            return -2;
        }
        int until = w.time + w.leaseTime;
        if (w.fresh[h] != null) {
            save();
            w.fresh[h] = new Lease(w.fresh[h].address, until);
            return w.fresh[h].address;
        }
        if (w.sticky[h] && w.stale[h] != null) {
            save();
            w.stale[h] = new Lease(w.stale[h].address, Math.min(until, w.overlapEnd[n]));
            return w.stale[h].address;
        }
        int address = -1;
        if (w.stale[h] != null) {
            int same = w.current[n].begin + (w.stale[h].address - w.old[n].begin);
            if (w.current[n].leasable(same) && w.holder(same) < 0) {
                address = same;
            }
        }
        for (int a = 0; a < 65536 && address < 0; a++) {
            if (w.current[n].leasable(a) && w.holder(a) < 0) {
                address = a;
            }
        }
        if (address < 0) {
            return -3;
        }
        save();
        w.fresh[h] = new Lease(address, until);
        return address;
    }

    int host(int h, int what) {
        if (out(h, 0, 15) || out(what, 0, 5)) {
            return -1;
        }
        if (w.member[h] < 0) {
            return -9;
        }
        if (what == 0) {
            return w.member[h];
        }
        if (what == 1) {
            return w.sticky[h] ? 1 : 0;
        }
        Lease lease = what < 4 ? w.fresh[h] : w.stale[h];
        if (lease == null) {
            return -9;
        }
        return what % 2 == 0 ? lease.address : lease.until;
    }

    int leaseOf(int address) {
        return out(address, 0, 65535) ? -1 : w.holder(address);
    }

    int pass(int duration) {
        if (out(duration, 1, 1000)) {
            return -1;
        }
        if (w.time + duration > 9999) {
            return -3;
        }
        save();
        w.time += duration;
        int removed = 0;
        for (int h = 0; h < 16; h++) {
            if (w.fresh[h] != null && w.fresh[h].until <= w.time) {
                w.fresh[h] = null;
                removed++;
            }
            if (w.stale[h] != null && w.stale[h].until <= w.time) {
                w.stale[h] = null;
                removed++;
            }
        }
        for (int n = 0; n < 12; n++) {
            if (w.old[n] != null && w.overlapEnd[n] <= w.time) {
                removed += w.giveUp(n);
            }
        }
        return removed;
    }

    int setTimes(int lease, int overlap) {
        if (out(lease, 1, 500) || out(overlap, 0, 500)) {
            return -1;
        }
        save();
        int changed = lease == w.leaseTime && overlap == w.overlapTime ? 0 : 1;
        w.leaseTime = lease;
        w.overlapTime = overlap;
        return changed;
    }

    int nextEvent() {
        List<Integer> times = new ArrayList<>();
        for (int h = 0; h < 16; h++) {
            if (w.fresh[h] != null) {
                times.add(w.fresh[h].until);
            }
            if (w.stale[h] != null) {
                times.add(w.stale[h].until);
            }
        }
        for (int n = 0; n < 12; n++) {
            if (w.old[n] != null) {
                times.add(w.overlapEnd[n]);
            }
        }
        return times.stream().mapToInt(t -> t).min().orElse(-9);
    }

    int count(int what) {
        switch (what) {
            case 0:
                return w.time;
            case 1:
                return w.pools.size();
            case 2:
                return (int) Arrays.stream(w.current).filter(b -> b != null).count();
            case 3:
                return (int) Arrays.stream(w.old).filter(b -> b != null).count();
            case 4:
                return (int) Arrays.stream(w.member).filter(m -> m >= 0).count();
            case 5:
                return (int) Arrays.stream(w.fresh).filter(l -> l != null).count()
                        + (int) Arrays.stream(w.stale).filter(l -> l != null).count();
            case 6:
                return w.cut;
            case 7:
                return w.pools.stream().mapToInt(Block::size).sum() - w.sums()[65536];
            case 8:
                return saved.size();
            default:
                return -1;
        }
    }

    private List<Block> routes() {
        int[] sums = w.sums();
        List<Block> routes = new ArrayList<>();
        for (int length = 0; length <= 16; length++) {
            int size = 1 << (16 - length);
            for (int begin = 0; begin < 65536; begin += size) {
                int parent = begin - begin % (2 * size);
                boolean within = length > 0 && sums[parent + 2 * size] - sums[parent] == 2 * size;
                if (sums[begin + size] - sums[begin] == size && !within) {
                    routes.add(new Block(begin, length));
                }
            }
        }
        routes.sort(Comparator.comparingInt(b -> b.begin));
        return routes;
    }

    int routeCount() {
        return routes().size();
    }

    int route(int r, int part) {
        if (r < 0 || out(part, 0, 1)) {
            return -1;
        }
        List<Block> routes = routes();
        if (r >= routes.size()) {
            return -9;
        }
        return part == 0 ? routes.get(r).begin : routes.get(r).length;
    }

    int fragmentationAfter(int n) {
        if (out(n, 0, 11)) {
            return -1;
        }
        if (w.current[n] == null || w.old[n] != null) {
            return -2;
        }
        World moved = w.moved(n);
        return moved == null ? -9 : moved.index();
    }

    int bestMove() {
        return w.best();
    }

    int makePlan(int moves) {
        if (out(moves, 1, 12)) {
            return -1;
        }
        plan = new ArrayList<>();
        World imagined = w;
        for (int n = imagined.best(); n >= 0 && plan.size() < moves; n = imagined.best()) {
            imagined = imagined.moved(n);
            plan.add(new int[] {n, imagined.current[n].begin, imagined.index()});
        }
        return plan.size();
    }

    int plan(int move, int part) {
        if (move < 0 || out(part, 0, 2)) {
            return -1;
        }
        return move >= plan.size() ? -9 : plan.get(move)[part];
    }

    int undo() {
        if (saved.isEmpty()) {
            return -2;
        }
        w = saved.removeLast();
        return saved.size();
    }
}
