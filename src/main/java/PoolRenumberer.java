import java.util.Arrays;

/** A manager of address pools that are divided into buddy blocks; ../shared/DOC.md says what it promises. */
public final class PoolRenumberer {
    public static final int INVALID_ARGUMENT = -1;
    public static final int ILLEGAL_STATE = -2;
    public static final int CAPACITY_EXCEEDED = -3;
    public static final int NONE = -9;

    private static final int ADDRESSES = 65536;
    private static final int POOLS = 4;
    private static final int NETWORKS = 12;
    private static final int HOSTS = 16;
    private static final int LONGEST = 16;
    private static final int POOL_SHORTEST = 4;
    private static final int POOL_LONGEST = 14;
    private static final int NETWORK_SHORTEST = 5;
    private static final int POLICIES = 4;
    private static final int TOP = 3;
    private static final int TEXT_MOST = 150;
    private static final int STATES = 6;
    private static final int MOVES = 12;
    private static final int TIME_MOST = 9999;
    private static final int DURATION_MOST = 1000;
    private static final int LEASE_TIME_MOST = 500;
    private static final int OVERLAP_TIME_MOST = 500;
    private static final int LOAD_ERROR = -10;

    /** A current and an old block for each network. */
    private static final int USED_MOST = 2 * NETWORKS;
    /** Each used block leaves at most one free buddy a length between the pool's and its own; a pool may be free whole. */
    private static final int FREE_MOST = USED_MOST * (LONGEST - POOL_SHORTEST) + POOLS;
    /** Stands for a beginning, an address or a network that is not there. */
    private static final int ABSENT = -1;
    /** Later than any lease or overlap can end. */
    private static final int NEVER = TIME_MOST + LEASE_TIME_MOST + OVERLAP_TIME_MOST;

    private static final int TOKEN_WRONG = 0;
    private static final int TOKEN_END = 1;
    private static final int TOKEN_SEMICOLON = 2;
    private static final int TOKEN_NUMBER = 3;
    private static final int TOKEN_POOL = 4;
    private static final int TOKEN_NET = 5;
    private static final int TOKEN_HOST = 6;
    private static final int TOKEN_STICKY = 7;
    private static final int TOKEN_POLICY = 8;

    private final Tokens text;
    private final State state;
    /** Where a load or a wave is tried before it is known to succeed. */
    private final State draft;
    private final History history;
    private final Survey survey;
    private final BlockList routes;
    private final SetUpReader reader;
    private final Planner planner;

    public PoolRenumberer() {
        text = new Tokens();
        state = new State();
        draft = new State();
        history = new History();
        survey = new Survey();
        routes = new BlockList();
        reader = new SetUpReader(text, draft, survey);
        planner = new Planner();
    }

    // ---- pools

    public int appendCharacter(int character) {
        if (!isIn(character, 0, 255)) {
            return INVALID_ARGUMENT;
        }
        return text.addSign((char) character) ? text.size : CAPACITY_EXCEEDED;
    }

    public int clearText() {
        int previous = text.size;
        text.size = 0;
        return previous;
    }

    public int load() {
        int items = reader.readText();
        if (items >= 0) {
            adoptDraft();
            text.size = 0;
        }
        return items;
    }

    public int addPool(int beginning, int length) {
        if (!isIn(beginning, 0, ADDRESSES - 1) || !isIn(length, POOL_SHORTEST, POOL_LONGEST)
                || !isAligned(beginning, length)) {
            return INVALID_ARGUMENT;
        }
        if (state.space.meetsPool(beginning, length)) {
            return ILLEGAL_STATE;
        }
        if (state.space.poolCount >= POOLS) {
            return CAPACITY_EXCEEDED;
        }
        history.keep(state);
        state.space.putPool(beginning, length);
        return state.space.poolCount - 1;
    }

    public int removePool(int pool) {
        if (!state.space.isPool(pool)) {
            return INVALID_ARGUMENT;
        }
        int begin = state.space.poolBegin[pool];
        int length = state.space.poolLength[pool];
        survey.take(state.space);
        if (survey.free.addressesIn(begin, length) != sizeOf(length)) {
            return ILLEGAL_STATE;
        }
        history.keep(state);
        state.space.dropPool(pool);
        return state.space.poolCount;
    }

    public int setPolicy(int policy) {
        if (!isIn(policy, 0, POLICIES - 1)) {
            return INVALID_ARGUMENT;
        }
        history.keep(state);
        int previous = state.space.policy;
        state.space.policy = policy;
        return previous;
    }

    public int pool(int pool, int what) {
        if (!state.space.isPool(pool) || !isIn(what, 0, 3)) {
            return INVALID_ARGUMENT;
        }
        int begin = state.space.poolBegin[pool];
        int length = state.space.poolLength[pool];
        if (what == 0) {
            return begin;
        }
        if (what == 1) {
            return length;
        }
        survey.take(state.space);
        return what == 2 ? survey.free.addressesIn(begin, length) : survey.free.blocksIn(begin, length);
    }

    public int freeBlocks(int length) {
        if (!isIn(length, 0, LONGEST)) {
            return INVALID_ARGUMENT;
        }
        survey.take(state.space);
        return survey.free.blocksOf(length);
    }

    public int largestFree() {
        survey.take(state.space);
        int length = survey.free.shortest();
        return length == ABSENT ? NONE : length;
    }

    public int capacity(int length) {
        if (!isIn(length, 0, LONGEST)) {
            return INVALID_ARGUMENT;
        }
        survey.take(state.space);
        return survey.free.roomFor(length);
    }

    public int fragmentation() {
        survey.take(state.space);
        return survey.free.fragmentationIndex();
    }

    // ---- networks

    public int assign(int network, int length) {
        if (!isNetwork(network) || !isIn(length, NETWORK_SHORTEST, LONGEST)) {
            return INVALID_ARGUMENT;
        }
        if (state.space.hasBlock(network)) {
            return ILLEGAL_STATE;
        }
        int begin = survey.place(state.space, length);
        if (begin == ABSENT) {
            return CAPACITY_EXCEEDED;
        }
        history.keep(state);
        state.space.putCurrent(network, begin, length);
        return begin;
    }

    public int release(int network) {
        if (!isNetwork(network)) {
            return INVALID_ARGUMENT;
        }
        if (!state.space.hasBlock(network) || state.hosts.leasesOf(network) > 0) {
            return ILLEGAL_STATE;
        }
        history.keep(state);
        state.space.dropCurrent(network);
        state.space.dropOld(network);
        return state.hosts.dismissMembers(network);
    }

    public int resize(int network, int length) {
        if (!isNetwork(network) || !isIn(length, NETWORK_SHORTEST, LONGEST)) {
            return INVALID_ARGUMENT;
        }
        if (!state.space.hasBlock(network) || state.space.length[network] == length) {
            return ILLEGAL_STATE;
        }
        int present = state.space.begin[network];
        int begin = present & -sizeOf(length);
        boolean grows = length < state.space.length[network];
        if (grows && !state.space.canCover(network, begin, length)) {
            return ILLEGAL_STATE;
        }
        if (!state.hosts.newLeasesFit(network, begin, length)) {
            return ILLEGAL_STATE;
        }
        history.keep(state);
        state.space.putCurrent(network, begin, length);
        return begin;
    }

    public int renumber(int network, int length) {
        if (!isNetwork(network) || !isIn(length, NETWORK_SHORTEST, LONGEST)) {
            return INVALID_ARGUMENT;
        }
        if (!state.space.isMovable(network)) {
            return ILLEGAL_STATE;
        }
        int begin = survey.place(state.space, length);
        if (begin == ABSENT) {
            return CAPACITY_EXCEEDED;
        }
        history.keep(state);
        state.moveNetwork(network, begin, length);
        return begin;
    }

    public int wave(int count) {
        if (!isIn(count, 1, NETWORKS)) {
            return INVALID_ARGUMENT;
        }
        // The moves are made in the draft, so the state still tells the order as it was at the beginning.
        draft.copyFrom(state);
        int moved = 0;
        int bound = ADDRESSES;
        for (int turn = 0; turn < NETWORKS && moved < count; turn++) {
            int network = state.space.movableBelow(bound);
            if (!isNetwork(network)) {
                break;
            }
            bound = state.space.begin[network];
            int length = state.space.length[network];
            int begin = survey.place(draft.space, length);
            if (begin != ABSENT && begin < bound) {
                draft.moveNetwork(network, begin, length);
                moved++;
            }
        }
        if (moved == 0) {
            return ILLEGAL_STATE;
        }
        adoptDraft();
        return moved;
    }

    public int network(int network, int what) {
        if (!isNetwork(network) || !isIn(what, 0, 5)) {
            return INVALID_ARGUMENT;
        }
        if (what == 5) {
            return state.hosts.membersOf(network);
        }
        boolean exists = what < 2 ? state.space.hasBlock(network) : state.space.hasOld(network);
        return exists ? state.space.property(network, what) : NONE;
    }

    public int owner(int address) {
        if (!isIn(address, 0, ADDRESSES - 1)) {
            return INVALID_ARGUMENT;
        }
        int network = state.space.networkAt(address);
        return network == ABSENT ? NONE : network;
    }

    // ---- hosts and leases

    public int addHost(int host, int network, int sticky) {
        if (!isHost(host) || !isNetwork(network) || !isIn(sticky, 0, 1)) {
            return INVALID_ARGUMENT;
        }
        if (state.hosts.isMember(host) || !state.space.hasBlock(network)) {
            return ILLEGAL_STATE;
        }
        history.keep(state);
        state.hosts.enrol(host, network, sticky);
        return state.hosts.membersOf(network);
    }

    public int removeHost(int host) {
        if (!isHost(host)) {
            return INVALID_ARGUMENT;
        }
        if (!state.hosts.isMember(host)) {
            return ILLEGAL_STATE;
        }
        history.keep(state);
        int leases = state.hosts.leasesHeld(host);
        state.hosts.dismiss(host);
        return leases;
    }

    public int request(int host) {
        if (!isHost(host)) {
            return INVALID_ARGUMENT;
        }
        if (!state.hosts.isMember(host)) {
            return ILLEGAL_STATE;
        }
        int address = state.addressFor(host);
        if (address == ABSENT) {
            return CAPACITY_EXCEEDED;
        }
        history.keep(state);
        state.grant(host, address);
        return address;
    }

    public int host(int host, int what) {
        if (!isHost(host) || !isIn(what, 0, 5)) {
            return INVALID_ARGUMENT;
        }
        if (!state.hosts.isMember(host)) {
            return NONE;
        }
        int value = state.hosts.property(host, what);
        return value == ABSENT ? NONE : value;
    }

    public int leaseOf(int address) {
        if (!isIn(address, 0, ADDRESSES - 1)) {
            return INVALID_ARGUMENT;
        }
        int host = state.hosts.holderOf(address);
        return host == ABSENT ? NONE : host;
    }

    public int pass(int duration) {
        if (!isIn(duration, 1, DURATION_MOST)) {
            return INVALID_ARGUMENT;
        }
        if (state.time + duration > TIME_MOST) {
            return CAPACITY_EXCEEDED;
        }
        history.keep(state);
        return state.advance(duration);
    }

    public int setTimes(int lease, int overlap) {
        if (!isIn(lease, 1, LEASE_TIME_MOST) || !isIn(overlap, 0, OVERLAP_TIME_MOST)) {
            return INVALID_ARGUMENT;
        }
        history.keep(state);
        boolean changed = state.leaseTime != lease || state.overlapTime != overlap;
        state.leaseTime = lease;
        state.overlapTime = overlap;
        return changed ? 1 : 0;
    }

    public int nextEvent() {
        int earliest = Math.min(state.hosts.firstEnd(), state.space.firstOverlapEnd());
        return earliest == NEVER ? NONE : earliest;
    }

    public int count(int what) {
        switch (what) {
            case 0:
                return state.time;
            case 1:
                return state.space.poolCount;
            case 2:
                return state.space.currentBlocks();
            case 3:
                return state.space.oldBlocks();
            case 4:
                return state.hosts.members();
            case 5:
                return state.hosts.leases();
            case 6:
                return state.cut;
            case 7:
                survey.take(state.space);
                return survey.free.addresses();
            case 8:
                return history.kept;
            default:
                return INVALID_ARGUMENT;
        }
    }

    // ---- routes and plans

    public int routeCount() {
        survey.listRoutes(state.space, routes);
        return routes.count;
    }

    public int route(int route, int part) {
        if (route < 0 || !isIn(part, 0, 1)) {
            return INVALID_ARGUMENT;
        }
        survey.listRoutes(state.space, routes);
        if (!routes.holds(route)) {
            return NONE;
        }
        return part == 0 ? routes.begin[route] : routes.length[route];
    }

    public int fragmentationAfter(int network) {
        if (!isNetwork(network)) {
            return INVALID_ARGUMENT;
        }
        if (!state.space.isMovable(network)) {
            return ILLEGAL_STATE;
        }
        planner.imagine(state.space);
        return planner.tryMove(network) ? planner.triedIndex : NONE;
    }

    public int bestMove() {
        planner.imagine(state.space);
        return planner.findBest() ? planner.bestNetwork : NONE;
    }

    public int makePlan(int moves) {
        if (!isIn(moves, 1, MOVES)) {
            return INVALID_ARGUMENT;
        }
        planner.fillPlan(state.space, moves);
        return planner.planned;
    }

    public int plan(int move, int part) {
        if (move < 0 || !isIn(part, 0, 2)) {
            return INVALID_ARGUMENT;
        }
        return planner.isPlanned(move) ? planner.planPart(move, part) : NONE;
    }

    public int undo() {
        if (history.kept == 0) {
            return ILLEGAL_STATE;
        }
        history.giveBack(state);
        return history.kept;
    }

    private void adoptDraft() {
        history.keep(state);
        state.copyFrom(draft);
    }

    private static boolean isIn(int value, int least, int most) {
        return value >= least && value <= most;
    }

    private static boolean isNetwork(int network) {
        return network >= 0 && network < NETWORKS;
    }

    private static boolean isHost(int host) {
        return host >= 0 && host < HOSTS;
    }

    private static int sizeOf(int length) {
        return 1 << (LONGEST - length);
    }

    /** A mask, and no remainder: sizes are powers of two. */
    private static boolean isAligned(int begin, int length) {
        return (begin & (sizeOf(length) - 1)) == 0;
    }

    private static boolean covers(int begin, int length, int address) {
        return begin != ABSENT && address >= begin && address < begin + sizeOf(length);
    }

    /** Of two blocks that have an address in common, one contains the other one's beginning. */
    private static boolean meet(int begin, int length, int otherBegin, int otherLength) {
        return covers(begin, length, otherBegin) || covers(otherBegin, otherLength, begin);
    }

    private static boolean canLease(int begin, int length, int address) {
        if (!covers(begin, length, address)) {
            return false;
        }
        int size = sizeOf(length);
        return size < 4 || (address != begin && address != begin + size - 1);
    }

    private static void copyRow(int[] from, int[] to) {
        System.arraycopy(from, 0, to, 0, Math.min(from.length, to.length));
    }

    /** Everything that undo() restores. */
    private static final class State {
        private final Space space = new Space();
        private final Hosts hosts = new Hosts();
        private int time;
        private int leaseTime;
        private int overlapTime;
        private int cut;

        State() {
            reset();
        }

        void reset() {
            space.reset();
            hosts.reset();
            time = 0;
            leaseTime = 60;
            overlapTime = 100;
            cut = 0;
        }

        void copyFrom(State other) {
            space.copyFrom(other.space);
            hosts.copyFrom(other.hosts);
            time = other.time;
            leaseTime = other.leaseTime;
            overlapTime = other.overlapTime;
            cut = other.cut;
        }

        void moveNetwork(int network, int begin, int length) {
            space.makeOld(network, time + overlapTime);
            space.putCurrent(network, begin, length);
            hosts.makeLeasesOld(network);
            if (overlapTime == 0) {
                giveUpOld(network);
            }
        }

        private int giveUpOld(int network) {
            int removed = hosts.dropOldLeases(network);
            space.dropOld(network);
            cut += removed;
            return removed;
        }

        int advance(int duration) {
            time += duration;
            int removed = hosts.dropEnded(time);
            for (int network = 0; network < NETWORKS; network++) {
                if (space.hasOld(network) && space.oldEnd[network] <= time) {
                    removed += giveUpOld(network);
                }
            }
            return removed;
        }

        /** The address that a request of a member answers, whether it is renewed or new. */
        int addressFor(int host) {
            if (hosts.newAddress[host] != ABSENT) {
                return hosts.newAddress[host];
            }
            if (hosts.renewsOld(host)) {
                return hosts.oldAddress[host];
            }
            int network = hosts.network[host];
            if (!space.hasBlock(network)) {
                return ABSENT;
            }
            int same = sameDistance(host, network);
            return same != ABSENT ? same : hosts.smallestFree(space.begin[network], space.length[network]);
        }

        private int sameDistance(int host, int network) {
            if (hosts.oldAddress[host] == ABSENT || !space.hasOld(network)) {
                return ABSENT;
            }
            int distance = hosts.oldAddress[host] - space.oldBegin[network];
            int address = space.begin[network] + distance;
            boolean possible = canLease(space.begin[network], space.length[network], address)
                    && hosts.holderOf(address) == ABSENT;
            return possible ? address : ABSENT;
        }

        void grant(int host, int address) {
            int until = time + leaseTime;
            int network = hosts.network[host];
            if (hosts.renewsOld(host) && space.hasOld(network)) {
                hosts.oldUntil[host] = Math.min(until, space.oldEnd[network]);
            } else {
                hosts.newAddress[host] = address;
                hosts.newUntil[host] = until;
            }
        }
    }

    /** The pools, the policy and the blocks of the networks: all that placing depends on. */
    private static final class Space {
        private int policy;
        private int poolCount;
        private final int[] poolBegin = new int[POOLS];
        private final int[] poolLength = new int[POOLS];
        private final int[] begin = new int[NETWORKS];
        private final int[] length = new int[NETWORKS];
        private final int[] oldBegin = new int[NETWORKS];
        private final int[] oldLength = new int[NETWORKS];
        private final int[] oldEnd = new int[NETWORKS];

        Space() {
            reset();
        }

        void reset() {
            policy = 0;
            poolCount = 0;
            Arrays.fill(begin, ABSENT);
            Arrays.fill(oldBegin, ABSENT);
        }

        void copyFrom(Space other) {
            policy = other.policy;
            poolCount = other.poolCount;
            copyRow(other.poolBegin, poolBegin);
            copyRow(other.poolLength, poolLength);
            copyRow(other.begin, begin);
            copyRow(other.length, length);
            copyRow(other.oldBegin, oldBegin);
            copyRow(other.oldLength, oldLength);
            copyRow(other.oldEnd, oldEnd);
        }

        boolean isPool(int pool) {
            return pool >= 0 && pool < poolCount && pool < POOLS;
        }

        boolean meetsPool(int someBegin, int someLength) {
            for (int pool = 0; pool < POOLS && pool < poolCount; pool++) {
                if (meet(poolBegin[pool], poolLength[pool], someBegin, someLength)) {
                    return true;
                }
            }
            return false;
        }

        void putPool(int newBegin, int newLength) {
            if (poolCount >= 0 && poolCount < POOLS) {
                poolBegin[poolCount] = newBegin;
                poolLength[poolCount] = newLength;
                poolCount++;
            }
        }

        void dropPool(int gone) {
            for (int pool = gone; isPool(pool) && pool + 1 < POOLS && pool + 1 < poolCount; pool++) {
                poolBegin[pool] = poolBegin[pool + 1];
                poolLength[pool] = poolLength[pool + 1];
            }
            poolCount--;
        }

        boolean hasBlock(int network) {
            return isNetwork(network) && begin[network] != ABSENT;
        }

        boolean hasOld(int network) {
            return isNetwork(network) && oldBegin[network] != ABSENT;
        }

        boolean isMovable(int network) {
            return hasBlock(network) && !hasOld(network);
        }

        /** The movable network with the greatest beginning below a bound. */
        int movableBelow(int bound) {
            int found = ABSENT;
            for (int network = 0; network < NETWORKS; network++) {
                if (isMovable(network) && begin[network] < bound
                        && (found == ABSENT || begin[network] > begin[found])) {
                    found = network;
                }
            }
            return found;
        }

        void putCurrent(int network, int newBegin, int newLength) {
            begin[network] = newBegin;
            length[network] = newLength;
        }

        void makeOld(int network, int end) {
            oldBegin[network] = begin[network];
            oldLength[network] = length[network];
            oldEnd[network] = end;
        }

        void dropCurrent(int network) {
            begin[network] = ABSENT;
        }

        void dropOld(int network) {
            oldBegin[network] = ABSENT;
        }

        /** Whether a greater block can take the place of a network's current block. */
        boolean canCover(int network, int newBegin, int newLength) {
            boolean within = false;
            for (int pool = 0; pool < POOLS && pool < poolCount; pool++) {
                within = within
                        || (poolLength[pool] <= newLength && covers(poolBegin[pool], poolLength[pool], newBegin));
            }
            if (!within) {
                return false;
            }
            for (int other = 0; other < NETWORKS; other++) {
                if (other != network && hasBlock(other) && meet(begin[other], length[other], newBegin, newLength)) {
                    return false;
                }
                if (hasOld(other) && meet(oldBegin[other], oldLength[other], newBegin, newLength)) {
                    return false;
                }
            }
            return true;
        }

        int networkAt(int address) {
            for (int network = 0; network < NETWORKS; network++) {
                if (covers(begin[network], length[network], address)
                        || covers(oldBegin[network], oldLength[network], address)) {
                    return network;
                }
            }
            return ABSENT;
        }

        int property(int network, int what) {
            switch (what) {
                case 0:
                    return begin[network];
                case 1:
                    return length[network];
                case 2:
                    return oldBegin[network];
                case 3:
                    return oldLength[network];
                default:
                    return oldEnd[network];
            }
        }

        int currentBlocks() {
            int blocks = 0;
            for (int network = 0; network < NETWORKS; network++) {
                blocks += hasBlock(network) ? 1 : 0;
            }
            return blocks;
        }

        int oldBlocks() {
            int blocks = 0;
            for (int network = 0; network < NETWORKS; network++) {
                blocks += hasOld(network) ? 1 : 0;
            }
            return blocks;
        }

        int firstOverlapEnd() {
            int earliest = NEVER;
            for (int network = 0; network < NETWORKS; network++) {
                if (hasOld(network)) {
                    earliest = Math.min(earliest, oldEnd[network]);
                }
            }
            return earliest;
        }
    }

    /** The hosts with their networks and leases. */
    private static final class Hosts {
        private final int[] network = new int[HOSTS];
        private final int[] sticky = new int[HOSTS];
        private final int[] newAddress = new int[HOSTS];
        private final int[] newUntil = new int[HOSTS];
        private final int[] oldAddress = new int[HOSTS];
        private final int[] oldUntil = new int[HOSTS];

        Hosts() {
            reset();
        }

        void reset() {
            for (int host = 0; host < HOSTS; host++) {
                dismiss(host);
            }
        }

        void copyFrom(Hosts other) {
            copyRow(other.network, network);
            copyRow(other.sticky, sticky);
            copyRow(other.newAddress, newAddress);
            copyRow(other.newUntil, newUntil);
            copyRow(other.oldAddress, oldAddress);
            copyRow(other.oldUntil, oldUntil);
        }

        boolean isMember(int host) {
            return network[host] != ABSENT;
        }

        void enrol(int host, int itsNetwork, int isSticky) {
            network[host] = itsNetwork;
            sticky[host] = isSticky;
        }

        void dismiss(int host) {
            network[host] = ABSENT;
            newAddress[host] = ABSENT;
            oldAddress[host] = ABSENT;
        }

        int dismissMembers(int itsNetwork) {
            int dismissed = 0;
            for (int host = 0; host < HOSTS; host++) {
                if (network[host] == itsNetwork) {
                    dismiss(host);
                    dismissed++;
                }
            }
            return dismissed;
        }

        int membersOf(int itsNetwork) {
            int members = 0;
            for (int host = 0; host < HOSTS; host++) {
                members += network[host] == itsNetwork ? 1 : 0;
            }
            return members;
        }

        int members() {
            return HOSTS - membersOf(ABSENT);
        }

        int leasesHeld(int host) {
            return (newAddress[host] != ABSENT ? 1 : 0) + (oldAddress[host] != ABSENT ? 1 : 0);
        }

        int leasesOf(int itsNetwork) {
            int leases = 0;
            for (int host = 0; host < HOSTS; host++) {
                leases += network[host] == itsNetwork ? leasesHeld(host) : 0;
            }
            return leases;
        }

        int leases() {
            int leases = 0;
            for (int host = 0; host < HOSTS; host++) {
                leases += leasesHeld(host);
            }
            return leases;
        }

        int holderOf(int address) {
            for (int host = 0; host < HOSTS; host++) {
                if (newAddress[host] == address || oldAddress[host] == address) {
                    return host;
                }
            }
            return ABSENT;
        }

        boolean renewsOld(int host) {
            return newAddress[host] == ABSENT && sticky[host] == 1 && oldAddress[host] != ABSENT;
        }

        int smallestFree(int begin, int length) {
            int end = begin + sizeOf(length);
            for (int address = begin; address < end; address++) {
                if (canLease(begin, length, address) && holderOf(address) == ABSENT) {
                    return address;
                }
            }
            return ABSENT;
        }

        boolean newLeasesFit(int itsNetwork, int begin, int length) {
            for (int host = 0; host < HOSTS; host++) {
                if (network[host] == itsNetwork && newAddress[host] != ABSENT
                        && !canLease(begin, length, newAddress[host])) {
                    return false;
                }
            }
            return true;
        }

        void makeLeasesOld(int itsNetwork) {
            for (int host = 0; host < HOSTS; host++) {
                if (network[host] == itsNetwork) {
                    oldAddress[host] = newAddress[host];
                    oldUntil[host] = newUntil[host];
                    newAddress[host] = ABSENT;
                }
            }
        }

        int dropOldLeases(int itsNetwork) {
            int dropped = 0;
            for (int host = 0; host < HOSTS; host++) {
                if (network[host] == itsNetwork && oldAddress[host] != ABSENT) {
                    oldAddress[host] = ABSENT;
                    dropped++;
                }
            }
            return dropped;
        }

        int dropEnded(int time) {
            int dropped = 0;
            for (int host = 0; host < HOSTS; host++) {
                if (newAddress[host] != ABSENT && newUntil[host] <= time) {
                    newAddress[host] = ABSENT;
                    dropped++;
                }
                if (oldAddress[host] != ABSENT && oldUntil[host] <= time) {
                    oldAddress[host] = ABSENT;
                    dropped++;
                }
            }
            return dropped;
        }

        int firstEnd() {
            int earliest = NEVER;
            for (int host = 0; host < HOSTS; host++) {
                if (newAddress[host] != ABSENT) {
                    earliest = Math.min(earliest, newUntil[host]);
                }
                if (oldAddress[host] != ABSENT) {
                    earliest = Math.min(earliest, oldUntil[host]);
                }
            }
            return earliest;
        }

        /** ABSENT for what a member has not. */
        int property(int host, int what) {
            switch (what) {
                case 0:
                    return network[host];
                case 1:
                    return sticky[host];
                case 2:
                    return newAddress[host];
                case 3:
                    return newAddress[host] == ABSENT ? ABSENT : newUntil[host];
                case 4:
                    return oldAddress[host];
                default:
                    return oldAddress[host] == ABSENT ? ABSENT : oldUntil[host];
            }
        }
    }

    /** A row of blocks, long enough for the free ones, that is filled again and again. */
    private static final class BlockList {
        private final int[] begin = new int[FREE_MOST];
        private final int[] length = new int[FREE_MOST];
        private int count;

        boolean holds(int index) {
            return index >= 0 && index < count && index < FREE_MOST;
        }

        /**
         * Adds the greatest blocks within a stretch of addresses. The greatest block that holds the stretch's first
         * address begins with it, so going from left to right finds them all.
         */
        void addStretch(int from, int to) {
            int at = from;
            while (at < to && count >= 0 && count < FREE_MOST) {
                int size = 1;
                int itsLength = LONGEST;
                while (itsLength > 0 && (at & size) == 0 && at + 2 * size <= to) {
                    size *= 2;
                    itsLength--;
                }
                begin[count] = at;
                length[count] = itsLength;
                count++;
                at += size;
            }
        }

        int addresses() {
            int sum = 0;
            for (int index = 0; index < FREE_MOST && index < count; index++) {
                sum += sizeOf(length[index]);
            }
            return sum;
        }

        int addressesIn(int outerBegin, int outerLength) {
            int sum = 0;
            for (int index = 0; index < FREE_MOST && index < count; index++) {
                sum += covers(outerBegin, outerLength, begin[index]) ? sizeOf(length[index]) : 0;
            }
            return sum;
        }

        int blocksIn(int outerBegin, int outerLength) {
            int blocks = 0;
            for (int index = 0; index < FREE_MOST && index < count; index++) {
                blocks += covers(outerBegin, outerLength, begin[index]) ? 1 : 0;
            }
            return blocks;
        }

        int blocksOf(int someLength) {
            int blocks = 0;
            for (int index = 0; index < FREE_MOST && index < count; index++) {
                blocks += length[index] == someLength ? 1 : 0;
            }
            return blocks;
        }

        int shortest() {
            int found = ABSENT;
            for (int index = 0; index < FREE_MOST && index < count; index++) {
                if (found == ABSENT || length[index] < found) {
                    found = length[index];
                }
            }
            return found;
        }

        int roomFor(int someLength) {
            int room = 0;
            for (int index = 0; index < FREE_MOST && index < count; index++) {
                room += length[index] <= someLength ? 1 << (someLength - length[index]) : 0;
            }
            return room;
        }

        int fragmentationIndex() {
            int sum = addresses();
            return sum <= 0 ? 0 : 1000 - 1000 * sizeOf(shortest()) / sum;
        }

        /** Where the policy puts a block of a length. */
        int placeBy(int policy, int someLength) {
            int best = ABSENT;
            for (int index = 0; index < FREE_MOST && index < count; index++) {
                if (length[index] <= someLength && (best == ABSENT || isBetter(policy, index, best))) {
                    best = index;
                }
            }
            if (!holds(best)) {
                return ABSENT;
            }
            int spare = policy == TOP ? sizeOf(length[best]) - sizeOf(someLength) : 0;
            return begin[best] + spare;
        }

        private boolean isBetter(int policy, int index, int than) {
            boolean lower = begin[index] < begin[than];
            boolean even = length[index] == length[than];
            boolean smaller = length[index] > length[than];
            switch (policy) {
                case 0:
                    return lower;
                case 1:
                    return smaller || (even && lower);
                case 2:
                    return !smaller && (!even || lower);
                default:
                    return smaller || (even && !lower);
            }
        }
    }

    /** The used and the free blocks of a space. */
    private static final class Survey {
        private final int[] usedBegin = new int[USED_MOST];
        private final int[] usedEnd = new int[USED_MOST];
        private int usedCount;
        private final BlockList free = new BlockList();

        void take(Space space) {
            listUsed(space);
            free.count = 0;
            for (int pool = 0; pool < POOLS && pool < space.poolCount; pool++) {
                int begin = space.poolBegin[pool];
                listFree(begin, begin + sizeOf(space.poolLength[pool]));
            }
        }

        int place(Space space, int length) {
            take(space);
            return free.placeBy(space.policy, length);
        }

        /** Used blocks that touch are one stretch, whatever pools and networks they belong to. */
        void listRoutes(Space space, BlockList routes) {
            listUsed(space);
            routes.count = 0;
            int from = 0;
            int to = 0;
            for (int index = 0; index < USED_MOST && index < usedCount; index++) {
                if (usedBegin[index] != to) {
                    routes.addStretch(from, to);
                    from = usedBegin[index];
                }
                to = usedEnd[index];
            }
            routes.addStretch(from, to);
        }

        private void listUsed(Space space) {
            usedCount = 0;
            for (int network = 0; network < NETWORKS; network++) {
                if (space.hasBlock(network)) {
                    insertUsed(space.begin[network], space.length[network]);
                }
                if (space.hasOld(network)) {
                    insertUsed(space.oldBegin[network], space.oldLength[network]);
                }
            }
        }

        /** Sorted, so that the gaps between the blocks can be read off. */
        private void insertUsed(int begin, int length) {
            if (usedCount < 0 || usedCount >= USED_MOST) {
                return;
            }
            int at = usedCount;
            while (at > 0 && usedBegin[at - 1] > begin) {
                usedBegin[at] = usedBegin[at - 1];
                usedEnd[at] = usedEnd[at - 1];
                at--;
            }
            usedBegin[at] = begin;
            usedEnd[at] = begin + sizeOf(length);
            usedCount++;
        }

        private void listFree(int begin, int end) {
            int from = begin;
            for (int index = 0; index < USED_MOST && index < usedCount; index++) {
                if (isIn(usedBegin[index], begin, end - 1)) {
                    free.addStretch(from, usedBegin[index]);
                    from = usedEnd[index];
                }
            }
            free.addStretch(from, end);
        }
    }

    /** The states that undo() can restore, in a ring. */
    private static final class History {
        private final State[] ring = new State[STATES];
        private int next;
        private int kept;

        History() {
            for (int index = 0; index < STATES; index++) {
                ring[index] = new State();
            }
        }

        void keep(State state) {
            State place = stateAt(next);
            if (place != null) {
                place.copyFrom(state);
                next = (next + 1) % STATES;
                kept = Math.min(kept + 1, STATES);
            }
        }

        void giveBack(State state) {
            int last = (next + STATES - 1) % STATES;
            State place = stateAt(last);
            if (place != null && kept > 0) {
                state.copyFrom(place);
                next = last;
                kept--;
            }
        }

        private State stateAt(int index) {
            return isIn(index, 0, STATES - 1) ? ring[index] : null;
        }
    }

    /** Imagines moves in a copy of the space, and keeps the plan. */
    private static final class Planner {
        private final Space imagined = new Space();
        private final Survey present = new Survey();
        private final Survey after = new Survey();
        private int triedBegin;
        private int triedIndex;
        private int bestNetwork;
        private int bestBegin;
        private int bestIndex;
        private final int[] planNetwork = new int[MOVES];
        private final int[] planBegin = new int[MOVES];
        private final int[] planIndex = new int[MOVES];
        private int planned;

        void imagine(Space space) {
            imagined.copyFrom(space);
            present.take(imagined);
        }

        /** Whether a movable network can be moved; the present survey must be that of the imagined space. */
        boolean tryMove(int network) {
            int was = imagined.begin[network];
            triedBegin = present.free.placeBy(imagined.policy, imagined.length[network]);
            if (triedBegin == ABSENT) {
                return false;
            }
            imagined.begin[network] = triedBegin;
            after.take(imagined);
            triedIndex = after.free.fragmentationIndex();
            imagined.begin[network] = was;
            return true;
        }

        boolean findBest() {
            bestNetwork = ABSENT;
            bestIndex = present.free.fragmentationIndex();
            for (int network = 0; network < NETWORKS; network++) {
                if (imagined.isMovable(network) && tryMove(network) && triedIndex < bestIndex) {
                    bestNetwork = network;
                    bestBegin = triedBegin;
                    bestIndex = triedIndex;
                }
            }
            return bestNetwork != ABSENT;
        }

        void fillPlan(Space space, int moves) {
            planned = 0;
            imagine(space);
            for (int move = 0; move < moves && move < MOVES && findBest(); move++) {
                planNetwork[move] = bestNetwork;
                planBegin[move] = bestBegin;
                planIndex[move] = bestIndex;
                planned++;
                if (isNetwork(bestNetwork)) {
                    imagined.begin[bestNetwork] = bestBegin;
                    present.take(imagined);
                }
            }
        }

        boolean isPlanned(int move) {
            return move >= 0 && move < planned && move < MOVES;
        }

        int planPart(int move, int part) {
            switch (part) {
                case 0:
                    return planNetwork[move];
                case 1:
                    return planBegin[move];
                default:
                    return planIndex[move];
            }
        }
    }

    /** The text of a set-up, and the token in it that was read last. */
    private static final class Tokens {
        private final char[] signs = new char[TEXT_MOST];
        private int size;
        private int next;
        private int kind;
        private int start;
        private int number;

        boolean addSign(char sign) {
            if (size < 0 || size >= TEXT_MOST) {
                return false;
            }
            signs[size] = sign;
            size++;
            return true;
        }

        void rewind() {
            next = 0;
        }

        void readToken() {
            while (next < size && isWithin(next) && signs[next] == ' ') {
                next++;
            }
            start = next;
            if (!isWithin(start)) {
                kind = TOKEN_END;
            } else if (isLetter(start)) {
                readWord();
            } else if (isDigit(start)) {
                readNumber();
            } else {
                kind = signs[start] == ';' ? TOKEN_SEMICOLON : TOKEN_WRONG;
                next++;
            }
        }

        private boolean isWithin(int index) {
            return index >= 0 && index < size && index < TEXT_MOST;
        }

        private boolean isLetter(int index) {
            return isWithin(index) && signs[index] >= 'a' && signs[index] <= 'z';
        }

        private boolean isDigit(int index) {
            return isWithin(index) && signs[index] >= '0' && signs[index] <= '9';
        }

        private void readWord() {
            while (next < size && isLetter(next)) {
                next++;
            }
            if (isWord("pool")) {
                kind = TOKEN_POOL;
            } else if (isWord("net")) {
                kind = TOKEN_NET;
            } else if (isWord("host")) {
                kind = TOKEN_HOST;
            } else if (isWord("sticky")) {
                kind = TOKEN_STICKY;
            } else {
                kind = isWord("policy") ? TOKEN_POLICY : TOKEN_WRONG;
            }
        }

        private boolean isWord(String word) {
            if (next - start != word.length()) {
                return false;
            }
            for (int index = 0; index < word.length(); index++) {
                int at = start + index;
                if (at < 0 || at >= TEXT_MOST || signs[at] != word.charAt(index)) {
                    return false;
                }
            }
            return true;
        }

        private void readNumber() {
            number = 0;
            while (next < size && isDigit(next)) {
                number = number * 10 + (signs[next] - '0');
                next++;
            }
            int digits = next - start;
            boolean leadingZero = digits > 1 && signs[start] == '0';
            kind = digits > 5 || leadingZero ? TOKEN_WRONG : TOKEN_NUMBER;
        }
    }

    /** Reads a text as a set-up into a state of its own. After a failure the token read last is the wrong one. */
    private static final class SetUpReader {
        private final Tokens tokens;
        private final State target;
        private final Survey survey;

        SetUpReader(Tokens tokens, State target, Survey survey) {
            this.tokens = tokens;
            this.target = target;
            this.survey = survey;
        }

        /** The number of items, or the answer for the error position. */
        int readText() {
            target.reset();
            tokens.rewind();
            boolean allowed = true;
            int items = 0;
            for (int turn = 0; turn < TEXT_MOST && allowed; turn++) {
                tokens.readToken();
                switch (tokens.kind) {
                    case TOKEN_END:
                        return items;
                    case TOKEN_POOL:
                        allowed = readPool();
                        break;
                    case TOKEN_NET:
                        allowed = readNet();
                        break;
                    case TOKEN_HOST:
                        allowed = readHost();
                        break;
                    case TOKEN_POLICY:
                        allowed = readPolicy();
                        break;
                    default:
                        allowed = false;
                }
                items++;
            }
            return LOAD_ERROR - tokens.start;
        }

        private boolean readPool() {
            if (target.space.poolCount >= POOLS || !readRange(0, ADDRESSES - 1)) {
                return false;
            }
            int begin = tokens.number;
            if (!readRange(POOL_SHORTEST, POOL_LONGEST)) {
                return false;
            }
            int length = tokens.number;
            if (!isAligned(begin, length) || target.space.meetsPool(begin, length)) {
                return false;
            }
            target.space.putPool(begin, length);
            return readSemicolon();
        }

        private boolean readNet() {
            if (!readRange(0, NETWORKS - 1)) {
                return false;
            }
            int network = tokens.number;
            if (target.space.hasBlock(network) || !readRange(NETWORK_SHORTEST, LONGEST)) {
                return false;
            }
            int length = tokens.number;
            int begin = survey.place(target.space, length);
            if (begin == ABSENT) {
                return false;
            }
            target.space.putCurrent(network, begin, length);
            return readSemicolon();
        }

        private boolean readHost() {
            if (!readRange(0, HOSTS - 1)) {
                return false;
            }
            int host = tokens.number;
            if (target.hosts.isMember(host) || !readRange(0, NETWORKS - 1)) {
                return false;
            }
            int network = tokens.number;
            if (!target.space.hasBlock(network)) {
                return false;
            }
            tokens.readToken();
            boolean sticky = tokens.kind == TOKEN_STICKY;
            target.hosts.enrol(host, network, sticky ? 1 : 0);
            return sticky ? readSemicolon() : tokens.kind == TOKEN_SEMICOLON;
        }

        private boolean readPolicy() {
            if (!readRange(0, POLICIES - 1)) {
                return false;
            }
            target.space.policy = tokens.number;
            return readSemicolon();
        }

        private boolean readSemicolon() {
            tokens.readToken();
            return tokens.kind == TOKEN_SEMICOLON;
        }

        private boolean readRange(int least, int most) {
            tokens.readToken();
            return tokens.kind == TOKEN_NUMBER && isIn(tokens.number, least, most);
        }
    }
}
