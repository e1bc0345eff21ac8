/** The edges that promises 29 to 35 name, sentence by sentence. */
final class RouteEdges {
    private static final Edge.Steps FULL = Edge.busy("pool 64 12;net 0 13;net 1 14;net 2 14;");
    /** Networks 0 and 1 have 0 to 3 and 8 to 11; free are 4 to 7 and 12 to 15. Only network 1 can go to 4 and help. */
    private static final Edge.Steps HOLES = Edge.busy("pool 0 12;net 0 14;net 9 14;net 1 14;", x -> x.release(9));
    /** Assigned are 0 (0), 16 (1), 32 (2), 48 (3), each 8 long with a free buddy; by top all go to 56 at first. */
    private static final Edge.Steps TWO_MOVES = Edge.busy(
            "pool 0 10;net 0 13;net 8 13;net 1 13;net 9 13;net 2 13;net 10 13;net 3 13;net 11 13;policy 3;",
            x -> x.release(8), x -> x.release(9), x -> x.release(10), x -> x.release(11));

    private RouteEdges() {
    }

    static void lookAtAll() {
        promise29();
        promise30();
        promise31();
        promise31Refused();
        promise32();
        promise33();
        promise33Kept();
        promise34();
        promise35();
        promise35Seventh();
    }

    private static void promise29() {
        Edge.says(29, "the blocks that contain only assigned addresses and are not contained in a greater such block (also across "
                + "pools).");
        Edge.asked(Edge.from("pool 0 14;net 0 16;"), 1, x -> x.routeCount());
        Edge.asked(Edge.from("pool 0 14;net 0 16;net 1 16;"), 1, x -> x.routeCount());
        // 0, 1 and 2: a block of two and one of one. 1 and 2 touch, but are no block.
        Edge.asked(Edge.from("pool 0 14;net 0 16;net 1 16;net 2 16;"), 2, x -> x.routeCount());
        Edge.asked(Edge.from("pool 0 14;net 0 16;net 1 16;net 2 16;", x -> x.release(0)), 2, x -> x.routeCount());
        Edge.asked(FULL, 1, x -> x.routeCount());
        // Two pools that are buddies, and two that only touch.
        Edge.asked(Edge.from("pool 4 14;pool 0 14;net 0 14;net 1 14;"), 1, x -> x.routeCount());
        Edge.asked(Edge.from("pool 8 14;pool 4 14;net 0 14;net 1 14;"), 2, x -> x.routeCount());
        Edge.asked(Edge.from("pool 0 14;pool 65532 14;net 0 14;net 1 14;"), 2, x -> x.routeCount());
        // Blocks of other sizes on both sides of a pool's end.
        Edge.asked(Edge.from("pool 0 14;pool 4 14;net 0 14;net 1 15;net 2 16;"), 3, x -> x.routeCount());
        // An old block is assigned too, until it is given up.
        Edge.asked(Edge.busy("pool 0 14;net 0 15;", x -> x.renumber(0, 15)), 1, x -> x.routeCount());
        Edge.asked(Edge.busy("pool 0 14;net 0 15;net 1 16;", x -> x.renumber(0, 16), x -> x.pass(100)), 1,
                x -> x.routeCount());

        Edge.says(29, "Returns their number.");
        Edge.asked(Edge.NEW, 0, x -> x.routeCount());
        Edge.asked(Edge.busy("pool 0 14;"), 0, x -> x.routeCount());
        Edge.asked(Edge.from("pool 0 14;net 0 14;", x -> x.release(0)), 0, x -> x.routeCount());
        // The most: 24 blocks, none of which touches another one.
        PoolRenumberer x = apart();
        Edge.is(x.routeCount(), 24);
        for (int route = 0; route < 24; route++) {
            Edge.is(x.route(route, 1), 16);
        }
        Edge.is(x.route(24, 0), -9);
    }

    /** 12 networks with a current and an old block of one address, each alone in a block of two, which it was before. */
    private static PoolRenumberer apart() {
        PoolRenumberer x = new PoolRenumberer();
        x.addPool(0, 10);
        for (int network = 0; network < 12; network++) {
            x.assign(network, 15);
            x.resize(network, 16);
        }
        for (int network = 0; network < 12; network++) {
            x.renumber(network, 15);
            x.resize(network, 16);
        }
        return x;
    }

    private static void promise30() {
        Edge.says(30, "Returns a part of a route.");
        Edge.Steps some = Edge.busy("pool 65528 13;pool 0 13;net 0 14;net 1 15;net 2 13;");
        Edge.asked(some, 0, x -> x.route(0, 0));
        Edge.asked(some, 14, x -> x.route(0, 1));

        Edge.says(30, "`route`: number of the route, from 0, by ascending beginnings");
        int[][] want = {{0, 14}, {4, 15}, {65528, 13}};
        for (int route = 0; route < want.length; route++) {
            for (int part = 0; part <= 1; part++) {
                int number = route;
                int itsPart = part;
                Edge.asked(some, want[route][part], x -> x.route(number, itsPart));
            }
        }
        // The networks and the pools stand in another order than their blocks.
        PoolRenumberer x = new PoolRenumberer();
        Edge.from("pool 8 14;net 0 15;pool 0 14;net 1 15;pool 65532 14;policy 3;net 2 16;").on(x);
        Edge.is(x.network(2, 0), 11);
        Edge.is(x.route(0, 0), 0);
        Edge.is(x.route(1, 0), 8);
        Edge.is(x.route(2, 0), 11);

        Edge.says(30, "`part`: 0 its beginning, 1 its length");
        Edge.asked(Edge.from("pool 65532 14;policy 3;net 0 16;"), 65535, y -> y.route(0, 0));
        Edge.asked(Edge.from("pool 65532 14;policy 3;net 0 16;"), 16, y -> y.route(0, 1));
        Edge.Steps four = Edge.from("pool 49152 4;pool 53248 4;pool 57344 4;pool 61440 4;net 0 5;net 1 5;net 2 5;net 3 5;net 4 5;"
                + "net 5 5;net 6 5;net 7 5;");
        Edge.asked(four, 49152, y -> y.route(0, 0));
        Edge.asked(four, 2, y -> y.route(0, 1));
        Edge.asked(four, -9, y -> y.route(1, 0));

        Edge.says(30, "Returns the part;");
        Edge.asked(some, 65528, y -> y.route(2, 0));

        Edge.says(30, "INVALID_ARGUMENT if route is negative or part is neither 0 nor 1;");
        for (int route : new int[] {-1, -2, -9, Integer.MIN_VALUE}) {
            Edge.refused(Edge.NEW, -1, y -> y.route(route, 0));
            Edge.refused(some, -1, y -> y.route(route, 1));
        }
        for (int part : Edge.outside(0, 1)) {
            Edge.refused(some, -1, y -> y.route(0, part));
            Edge.refused(some, -1, y -> y.route(3, part));
            Edge.refused(Edge.NEW, -1, y -> y.route(0, part));
        }

        Edge.says(30, "NONE if there is no such route.");
        for (int route : new int[] {3, 4, 24, 292, 65536, Integer.MAX_VALUE}) {
            Edge.asked(some, -9, y -> y.route(route, 0));
            Edge.asked(some, -9, y -> y.route(route, 1));
        }
        Edge.asked(Edge.NEW, -9, y -> y.route(0, 0));
        Edge.asked(Edge.NEW, -9, y -> y.route(0, 1));
        Edge.asked(Edge.from("pool 0 14;net 0 14;", y -> y.release(0)), -9, y -> y.route(0, 0));
    }

    private static void promise31() {
        Edge.says(31, "Returns the fragmentation index that there would be if a network was renumbered now with the length of its "
                + "current block, and its old block was given up at once.");
        Edge.asked(HOLES, 500, x -> x.fragmentationAfter(0));
        Edge.asked(HOLES, 0, x -> x.fragmentationAfter(1));
        // By top both go to 12: free are 0 to 7, or 4 to 11 in two blocks.
        Edge.Steps top = Edge.from("pool 0 12;net 0 14;net 9 14;net 1 14;policy 3;", x -> x.release(9));
        Edge.asked(top, 0, x -> x.fragmentationAfter(0));
        Edge.asked(top, 500, x -> x.fragmentationAfter(1));
        // The overlap time does not matter, and leases of its hosts do not forbid it.
        Edge.asked(Edge.from("pool 0 12;net 0 14;net 9 14;net 1 14;host 0 1;", x -> x.release(9), x -> x.request(0),
                x -> x.setTimes(60, 500)), 0, x -> x.fragmentationAfter(1));
        // The block is placed while the present one is still assigned, so it does not stay.
        Edge.asked(Edge.from("pool 0 14;net 0 15;"), 0, x -> x.fragmentationAfter(0));
        Edge.asked(Edge.from("pool 0 14;net 0 16;"), 334, x -> x.fragmentationAfter(0));

        Edge.says(31, "`network`: 0 to 11");
        Edge.asked(Edge.from("pool 0 12;net 0 14;net 11 14;"), 500, x -> x.fragmentationAfter(0));
        Edge.asked(Edge.from("pool 0 12;net 0 14;net 11 14;"), 500, x -> x.fragmentationAfter(11));

        Edge.says(31, "Returns the index;");
        // Of 4092 free addresses the greatest block has 2048: 500.49 is rounded down.
        Edge.asked(Edge.from("pool 0 4;net 0 14;"), 500, x -> x.fragmentationAfter(0));
    }

    private static void promise31Refused() {
        Edge.says(31, "INVALID_ARGUMENT if network is out of range;");
        for (int network : Edge.outside(0, 11)) {
            Edge.refused(Edge.NEW, -1, x -> x.fragmentationAfter(network));
            Edge.refused(HOLES, -1, x -> x.fragmentationAfter(network));
        }

        Edge.says(31, "ILLEGAL_STATE if it has no block, or an old one;");
        Edge.refused(Edge.NEW, -2, x -> x.fragmentationAfter(0));
        Edge.refused(HOLES, -2, x -> x.fragmentationAfter(9));
        Edge.refused(HOLES, -2, x -> x.fragmentationAfter(11));
        String one = "pool 0 12;net 0 14;";
        Edge.refused(Edge.busy(one, x -> x.renumber(0, 14)), -2, x -> x.fragmentationAfter(0));
        Edge.refused(Edge.busy(one, x -> x.renumber(0, 14), x -> x.pass(99)), -2, x -> x.fragmentationAfter(0));
        // Free would be 0 to 3 and 8 to 15, so 8 of 12; network 0 goes from 4 to 0: free 4 to 15, 8 of 12.
        Edge.asked(Edge.busy(one, x -> x.renumber(0, 14), x -> x.pass(100)), 334, x -> x.fragmentationAfter(0));
        // It could not be placed either: NONE is no error.
        Edge.refused(FULL, -2, x -> x.fragmentationAfter(3));
        Edge.refused(Edge.from("pool 0 14;net 0 15;", x -> x.renumber(0, 15)), -2, x -> x.fragmentationAfter(0));

        Edge.says(31, "NONE if the block cannot be placed.");
        Edge.asked(FULL, -9, x -> x.fragmentationAfter(0));
        Edge.asked(FULL, -9, x -> x.fragmentationAfter(2));
        Edge.asked(Edge.from("pool 0 14;net 0 14;"), -9, x -> x.fragmentationAfter(0));
        Edge.asked(Edge.from("pool 0 14;net 0 15;net 1 16;"), -9, x -> x.fragmentationAfter(0));
        Edge.asked(Edge.from("pool 0 14;net 0 15;net 1 16;"), 0, x -> x.fragmentationAfter(1));
    }

    private static void promise32() {
        Edge.says(32, "Finds the network whose renumbering would lead to the smallest fragmentation index (as by "
                + "fragmentationAfter()).");
        Edge.asked(HOLES, 1, x -> x.bestMove());
        // Free are 0 to 7 and 24 to 31; networks 0, 1 and 2 begin at 8, 12 and 16. Only 2 leaves a greater free block.
        Edge.Steps three = Edge.from("pool 0 11;net 9 13;net 0 14;net 1 14;net 2 13;", x -> x.release(9));
        int[] after = {500, 500, 0};
        Edge.asked(three, 500, x -> x.fragmentation());
        for (int network = 0; network <= 2; network++) {
            int some = network;
            Edge.asked(three, after[network], x -> x.fragmentationAfter(some));
        }
        Edge.asked(three, 2, x -> x.bestMove());
        // By worst networks 0 and 1 would split the greatest free block.
        Edge.Steps worse = Edge.from("pool 0 11;net 0 14;net 9 14;net 1 14;policy 2;", x -> x.release(9));
        Edge.asked(worse, 334, x -> x.fragmentation());
        Edge.asked(worse, 667, x -> x.fragmentationAfter(0));
        Edge.asked(worse, -9, x -> x.bestMove());

        Edge.says(32, "Returns the network, of several the one with the smallest number;");
        Edge.asked(Edge.from("pool 0 12;net 11 14;net 9 14;net 0 14;", x -> x.release(9)), 0, x -> x.bestMove());
        Edge.asked(Edge.from("pool 0 12;net 0 14;net 9 14;net 11 14;", x -> x.release(9)), 11, x -> x.bestMove());
        // By top all go to 56, and all but network 3 lead to 500.
        PoolRenumberer x = new PoolRenumberer();
        TWO_MOVES.on(x);
        Edge.is(x.fragmentation(), 750);
        for (int network = 0; network <= 2; network++) {
            Edge.is(x.fragmentationAfter(network), 500);
        }
        Edge.is(x.fragmentationAfter(3), 750);
        Edge.is(x.bestMove(), 0);
        // The same with the numbers from above: network 0 is the one that does not help.
        Edge.asked(Edge.from("pool 0 10;net 3 13;net 8 13;net 2 13;net 9 13;net 1 13;net 10 13;net 0 13;net 11 13;policy 3;",
                y -> y.release(8), y -> y.release(9), y -> y.release(10), y -> y.release(11)), 1, y -> y.bestMove());

        Edge.says(32, "NONE if no network leads to a smaller index than the present one.");
        Edge.asked(Edge.NEW, -9, y -> y.bestMove());
        Edge.asked(Edge.busy("pool 0 12;"), -9, y -> y.bestMove());
        Edge.asked(FULL, -9, y -> y.bestMove());
        // The same index is not smaller.
        Edge.asked(Edge.from("pool 0 14;net 0 16;"), -9, y -> y.bestMove());
        Edge.asked(Edge.from("pool 0 14;net 0 15;"), -9, y -> y.bestMove());
        // Only network 1 could help, by going from 8 to 4, but its old block is 64 to 67.
        String far = "pool 64 14;net 1 14;pool 0 12;net 0 14;net 9 14;";
        Edge.asked(Edge.from(far, y -> y.renumber(1, 14), y -> y.release(9), y -> y.pass(99)), -9, y -> y.bestMove());
        Edge.asked(Edge.from(far, y -> y.renumber(1, 14), y -> y.release(9), y -> y.pass(100)), 1, y -> y.bestMove());
    }

    private static void promise33() {
        Edge.says(33, "again and again the best move (as by bestMove()) is imagined, the old block being given up at once, until "
                + "there is none, or after a number of moves.");
        PoolRenumberer x = new PoolRenumberer();
        TWO_MOVES.on(x);
        Edge.is(x.makePlan(12), 2);
        // The plan is what bestMove() and renumber() lead to, when the old blocks are given up at once.
        x.setTimes(60, 0);
        for (int move = 0; move < 2; move++) {
            int network = x.bestMove();
            Edge.is(x.plan(move, 0), network);
            Edge.is(x.plan(move, 1), x.renumber(network, x.network(network, 1)));
            Edge.is(x.plan(move, 2), x.fragmentation());
        }
        Edge.is(x.bestMove(), -9);

        Edge.says(33, "Nothing else changes.");
        Edge.plans(TWO_MOVES, 1, y -> y.makePlan(1));
        Edge.plans(TWO_MOVES, 2, y -> y.makePlan(12));
        Edge.plans(FULL, 0, y -> y.makePlan(12));
        Edge.plans(Edge.NEW, 0, y -> y.makePlan(1));

        Edge.says(33, "`moves`: 1 to 12");
        Edge.plans(HOLES, 1, y -> y.makePlan(1));
        Edge.plans(HOLES, 1, y -> y.makePlan(12));

        Edge.says(33, "Returns the number of moves in the plan;");
        for (int moves = 1; moves <= 12; moves++) {
            int some = moves;
            Edge.plans(TWO_MOVES, Math.min(moves, 2), y -> y.makePlan(some));
        }
        Edge.plans(Edge.busy("pool 0 12;"), 0, y -> y.makePlan(12));

        Edge.says(33, "INVALID_ARGUMENT if moves is out of range.");
        for (int moves : Edge.outside(1, 12)) {
            Edge.refused(Edge.NEW, -1, y -> y.makePlan(moves));
            Edge.refused(TWO_MOVES, -1, y -> y.makePlan(moves));
        }
    }

    private static void promise33Kept() {
        Edge.says(33, "The plan is kept until the next successful call of makePlan().");
        PoolRenumberer x = new PoolRenumberer();
        TWO_MOVES.on(x);
        x.makePlan(12);
        Edge.is(x.makePlan(0), -1);
        Edge.is(x.makePlan(13), -1);
        Edge.is(x.plan(1, 0), 1);
        x.renumber(0, 13);
        x.pass(100);
        x.undo();
        x.undo();
        x.clearText();
        Edge.is(x.load(), 0);
        x.bestMove();
        x.fragmentationAfter(0);
        int[][] want = {{0, 56, 500}, {1, 40, 0}};
        for (int move = 0; move < 2; move++) {
            for (int part = 0; part <= 2; part++) {
                Edge.is(x.plan(move, part), want[move][part]);
            }
        }
        // An empty plan is a successful call too, and so is a shorter one.
        Edge.is(x.makePlan(12), 0);
        Edge.is(x.plan(0, 0), -9);
        x = new PoolRenumberer();
        TWO_MOVES.on(x);
        x.makePlan(2);
        x.makePlan(1);
        Edge.is(x.plan(0, 0), 0);
        Edge.is(x.plan(1, 0), -9);
    }

    private static void promise34() {
        Edge.says(34, "Returns a part of the plan.");
        Edge.Steps planned = x -> {
            TWO_MOVES.on(x);
            x.makePlan(12);
        };
        Edge.asked(planned, 0, x -> x.plan(0, 0));

        Edge.says(34, "`move`: index, from 0");
        Edge.asked(planned, 0, x -> x.plan(0, 0));
        Edge.asked(planned, 1, x -> x.plan(1, 0));

        Edge.says(34, "`part`: 0 the network, 1 the beginning of its block after the move, 2 the fragmentation index after the move");
        int[][] want = {{0, 56, 500}, {1, 40, 0}};
        for (int move = 0; move <= 1; move++) {
            for (int part = 0; part <= 2; part++) {
                int number = move;
                int itsPart = part;
                Edge.asked(planned, want[move][part], x -> x.plan(number, itsPart));
            }
        }

        Edge.says(34, "Returns the part;");
        Edge.asked(planned, 40, x -> x.plan(1, 1));

        Edge.says(34, "INVALID_ARGUMENT if move is negative or part is out of range;");
        for (int move : new int[] {-1, -2, -9, Integer.MIN_VALUE}) {
            Edge.refused(Edge.NEW, -1, x -> x.plan(move, 0));
            Edge.refused(planned, -1, x -> x.plan(move, 2));
        }
        for (int part : Edge.outside(0, 2)) {
            Edge.refused(planned, -1, x -> x.plan(0, part));
            Edge.refused(planned, -1, x -> x.plan(2, part));
            Edge.refused(Edge.NEW, -1, x -> x.plan(0, part));
        }

        Edge.says(34, "NONE if the plan is not so long.");
        for (int move : new int[] {2, 3, 11, 12, 13, 256, Integer.MAX_VALUE}) {
            for (int part = 0; part <= 2; part++) {
                int itsPart = part;
                Edge.asked(planned, -9, x -> x.plan(move, itsPart));
            }
        }
        for (int part = 0; part <= 2; part++) {
            int itsPart = part;
            Edge.asked(Edge.NEW, -9, x -> x.plan(0, itsPart));
            Edge.asked(Edge.NEW, -9, x -> x.plan(11, itsPart));
        }
        // The moves of a longer plan before are gone.
        Edge.Steps shorter = x -> {
            TWO_MOVES.on(x);
            x.makePlan(12);
            x.makePlan(1);
        };
        Edge.asked(shorter, -9, x -> x.plan(1, 0));
    }

    private static void promise35() {
        Edge.says(35, "Restores the most recently saved state.");
        PoolRenumberer x = new PoolRenumberer();
        x.setPolicy(1);
        x.setPolicy(2);
        x.setPolicy(3);
        for (int policy = 2; policy >= 0; policy--) {
            Edge.is(x.undo(), policy);
            Edge.is(x.setPolicy(0), policy);
            x.undo();
        }
        // A call that was refused, or only asked, saves none.
        x = new PoolRenumberer();
        Edge.is(x.addPool(0, 12), 0);
        Edge.is(x.assign(0, 4), -1);
        Edge.is(x.release(0), -2);
        Edge.is(x.assign(0, 11), -3);
        Edge.is(x.count(7), 16);
        Edge.is(x.makePlan(3), 0);
        Edge.is(x.appendCharacter(32), 1);
        Edge.is(x.undo(), 0);
        Edge.is(x.count(1), 0);

        Edge.says(35, "Returns the number of states that are still kept;");
        x = new PoolRenumberer();
        for (int turn = 0; turn < 6; turn++) {
            x.pass(1);
            Edge.is(x.count(8), turn + 1);
        }
        for (int left = 5; left >= 0; left--) {
            Edge.is(x.undo(), left);
            Edge.is(x.count(8), left);
            Edge.is(x.count(0), left);
        }

        Edge.says(35, "ILLEGAL_STATE if there is none.");
        Edge.refused(Edge.NEW, -2, y -> y.undo());
        Edge.Steps undone = y -> {
            y.addPool(0, 12);
            Due.write(y, "policy 1;");
            y.undo();
        };
        Edge.refused(undone, -2, y -> y.undo());
        Edge.Steps drained = y -> {
            FULL.on(y);
            for (int turn = 0; turn < 6; turn++) {
                y.undo();
            }
        };
        Edge.refused(drained, -2, y -> y.undo());
        Edge.saves(drained, 0, y -> y.pass(1));
        // undo() saves no state itself, so there is nothing to undo after it.
        x = new PoolRenumberer();
        x.addPool(0, 12);
        Edge.is(x.undo(), 0);
        Edge.is(x.undo(), -2);
        Edge.is(x.count(1), 0);
    }

    private static void promise35Seventh() {
        Edge.says(35, "Returns the number of states that are still kept;");
        // The ring goes round: the times 1, 2, .. as many as calls, of which only six can be undone.
        for (int calls : new int[] {5, 6, 7, 8, 12, 13, 40}) {
            PoolRenumberer x = new PoolRenumberer();
            for (int turn = 0; turn < calls; turn++) {
                x.pass(1);
            }
            int kept = Math.min(calls, 6);
            Edge.is(x.count(8), kept);
            for (int left = kept - 1; left >= 0; left--) {
                Edge.is(x.undo(), left);
                Edge.is(x.count(0), calls - kept + left);
            }
            Edge.is(x.undo(), -2);
            Edge.is(x.count(0), calls - kept);
        }
        // New states after some were taken back.
        PoolRenumberer x = new PoolRenumberer();
        for (int turn = 0; turn < 9; turn++) {
            x.pass(1);
        }
        Edge.is(x.undo(), 5);
        Edge.is(x.undo(), 4);
        for (int turn = 0; turn < 5; turn++) {
            x.pass(100);
        }
        Edge.is(x.count(8), 6);
        int[] times = {407, 307, 207, 107, 7, 6};
        for (int turn = 0; turn < 6; turn++) {
            Edge.is(x.undo(), 5 - turn);
            Edge.is(x.count(0), times[turn]);
        }
        Edge.is(x.undo(), -2);
    }
}
