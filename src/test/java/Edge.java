import java.util.ArrayList;
import java.util.Arrays;
import java.util.IdentityHashMap;
import java.util.List;
import java.util.Map;

/**
 * Looks at one call at an edge: at its answer, and at all that the call must leave as it was. What can be seen of an
 * object is seen on objects that are made anew by the same steps, because some looks change what they look at.
 */
final class Edge {
    interface Steps {
        void on(PoolRenumberer x);
    }

    interface Call {
        int on(PoolRenumberer x);
    }

    /** A new object: no pool, no text, no plan, no saved state. */
    static final Steps NEW = x -> { };

    private static final int STATES = 6;
    private static final Document DOCUMENT = new Document();
    private static final Map<Steps, Seen> SEEN_BEFORE = new IdentityHashMap<>();
    private static String said = "";
    private static boolean looked = true;

    private Edge() {
    }

    /** What the next looks are about: a sentence of the document, or words of it. Promise 0 is the section "Terms". */
    static void says(int promise, String words) {
        Due.isTrue("a look at: " + said, looked);
        Due.isTrue("the document says in promise " + promise + ": " + words, DOCUMENT.quote(promise, words));
        said = "promise " + promise + " says \"" + words + "\"";
        looked = false;
    }

    static void everySentenceIsQuoted() {
        Due.isTrue("a look at: " + said, looked);
        for (String sentence : DOCUMENT.neverQuoted()) {
            Due.isTrue("a test of " + sentence, false);
        }
    }

    /** Loads a set-up into a new object; further calls may follow. One state is saved by that. */
    static Steps from(String setUp, Call... more) {
        return x -> {
            loadOrTell(x, setUp);
            callAll(x, more);
        };
    }

    /** The same with six saved states, a plan of one move and a text of 12 characters. */
    static Steps busy(String setUp, Call... more) {
        return x -> {
            x.addPool(0, 12);
            x.assign(0, 14);
            x.assign(8, 14);
            x.assign(1, 14);
            x.release(8);
            Due.is("the plan of a busy object", x.makePlan(12), 1);
            loadOrTell(x, setUp);
            Due.is("the states of a busy object", x.count(8), STATES);
            callAll(x, more);
            Due.write(x, "pool 4 14;ne");
        };
    }

    private static void loadOrTell(PoolRenumberer x, String setUp) {
        Due.write(x, setUp);
        Due.isTrue("the set-up " + setUp, x.load() >= 0);
    }

    private static void callAll(PoolRenumberer x, Call... more) {
        for (Call call : more) {
            if (call.on(x) < 0) {
                Due.isTrue(here() + ": the steps on the way are possible", false);
            }
        }
    }

    /** Numbers outside of a range: just outside, far outside, and those that a shift or a cast would bring inside. */
    static int[] outside(int least, int most) {
        int[] some = {least - 1, most + 1, least - 2, most + 2, Integer.MIN_VALUE, Integer.MAX_VALUE, -1, -9, least - 32,
            least + 32, most + 32, least + 256, most + 256, least + 65536, most + 65536, Integer.MIN_VALUE + least, ~least};
        return Arrays.stream(some).filter(n -> n < least || n > most).distinct().toArray();
    }

    /** An answer alone, of an object that is on its way. */
    static void is(int got, int want) {
        looked = true;
        Due.is(here(), got, want);
    }

    /** A call that answers an error code; it changes nothing. */
    static void refused(Steps before, int want, Call call) {
        Due.isTrue(here() + ": " + want + " is an error code", want == -1 || want == -2 || want == -3 || want <= -10);
        asked(before, want, call);
    }

    /** A call that only asks; it changes nothing. */
    static void asked(Steps before, int want, Call call) {
        answers(before, want, call);
        Seen was = seenBefore(before);
        Seen now = new Seen(before, call);
        same("the state", was.state, now.state);
        same("the plan", was.plan, now.plan);
        same("the text", was.text, now.text);
        same("the saved states", was.saved, now.saved);
    }

    /** A call that may change the text and nothing else. */
    static void writes(Steps before, int want, Call call) {
        answers(before, want, call);
        Seen was = seenBefore(before);
        Seen now = new Seen(before, call);
        same("the state", was.state, now.state);
        same("the plan", was.plan, now.plan);
        same("the saved states", was.saved, now.saved);
    }

    /** A call that may change the plan and nothing else. */
    static void plans(Steps before, int want, Call call) {
        answers(before, want, call);
        Seen was = seenBefore(before);
        Seen now = new Seen(before, call);
        same("the state", was.state, now.state);
        same("the text", was.text, now.text);
        same("the saved states", was.saved, now.saved);
    }

    /** A call that saves the state before it and changes neither the text nor the plan. */
    static void saves(Steps before, int want, Call call) {
        loads(before, want, call);
        same("the text", seenBefore(before).text, new Seen(before, call).text);
    }

    /** A call that saves the state before it, and does not change the plan. */
    static void loads(Steps before, int want, Call call) {
        answers(before, want, call);
        Due.isTrue(here() + ": " + want + " is no error code", want >= 0);
        Seen was = seenBefore(before);
        same("the plan", was.plan, new Seen(before, call).plan);
        int kept = Math.min(made(before).count(8) + 1, STATES);
        PoolRenumberer x = made(before);
        call.on(x);
        Due.is(here() + ": states that are kept", x.count(8), kept);
        Due.is(here() + ": undo()", x.undo(), kept - 1);
        Seen undone = new Seen(before, y -> {
            call.on(y);
            return y.undo();
        });
        same("the state after undo()", was.state, undone.state);
        same("the plan after undo()", was.plan, undone.plan);
        // When a seventh state was saved, the oldest one is gone, and with it the last look of the six.
        int looks = Math.min(kept - 1, STATES) * (was.saved.length / STATES);
        same("the older states", Arrays.copyOf(was.saved, looks), Arrays.copyOf(undone.saved, looks));
    }

    private static void answers(Steps before, int want, Call call) {
        looked = true;
        Due.is(here(), call.on(made(before)), want);
    }

    private static void same(String what, int[] was, int[] now) {
        Due.isTrue(here() + ": " + what + " is not the same as before, at " + Arrays.mismatch(was, now),
                Arrays.equals(was, now));
    }

    private static PoolRenumberer made(Steps before) {
        PoolRenumberer x = new PoolRenumberer();
        before.on(x);
        return x;
    }

    private static Seen seenBefore(Steps before) {
        return SEEN_BEFORE.computeIfAbsent(before, b -> new Seen(b, x -> 0));
    }

    private static String here() {
        return said + ", " + StackWalker.getInstance().walk(frames -> frames
                .filter(f -> !f.getClassName().startsWith("Edge$") && !f.getClassName().equals("Edge"))
                .filter(f -> f.getClassName().endsWith("Edges"))
                .findFirst().map(f -> f.getFileName() + ":" + f.getLineNumber()).orElse("?"));
    }

    /** All that can be seen after a call. */
    private static final class Seen {
        final int[] state;
        final int[] plan;
        final int[] text;
        final int[] saved;

        Seen(Steps before, Call call) {
            state = stateOf(after(before, call));
            plan = planOf(after(before, call));
            text = textOf(before, call);
            int[] all = new int[0];
            for (int depth = 1; depth <= STATES; depth++) {
                PoolRenumberer x = after(before, call);
                int answer = 0;
                for (int turn = 0; turn < depth; turn++) {
                    answer = x.undo();
                }
                // A state that is not there looks like none, so that the looks are of one length.
                int[] look = answer < 0 ? new int[stateOf(x).length] : stateOf(x);
                int from = all.length;
                all = Arrays.copyOf(all, from + look.length);
                System.arraycopy(look, 0, all, from, look.length);
            }
            saved = all;
        }

        private static PoolRenumberer after(Steps before, Call call) {
            PoolRenumberer x = made(before);
            call.on(x);
            return x;
        }

        private static int[] planOf(PoolRenumberer x) {
            List<Integer> all = new ArrayList<>();
            for (int move = 0; x.plan(move, 0) >= 0 && move < 13; move++) {
                for (int part = 0; part <= 2; part++) {
                    all.add(x.plan(move, part));
                }
            }
            return all.stream().mapToInt(i -> i).toArray();
        }

        /** Its length, what load() answers, and what it sets up if it has no error. */
        private static int[] textOf(Steps before, Call call) {
            PoolRenumberer x = after(before, call);
            int answer = x.load();
            int[] look = answer < 0 ? new int[0] : stateOf(x);
            int[] all = Arrays.copyOf(look, look.length + 2);
            all[look.length] = answer;
            all[look.length + 1] = after(before, call).clearText();
            return all;
        }

        /** Renumberings and requests at the end tell the times and the policy. */
        private static int[] stateOf(PoolRenumberer x) {
            int[] all = new int[320];
            int at = 0;
            for (int what = 0; what <= 7; what++) {
                all[at++] = x.count(what);
            }
            for (int what = 0; what <= 5; what++) {
                for (int network = 0; network <= 11; network++) {
                    all[at++] = x.network(network, what);
                }
                for (int host = 0; host <= 15; host++) {
                    all[at++] = x.host(host, what);
                }
            }
            for (int pool = 0; pool <= 3; pool++) {
                for (int what = 0; what <= 3; what++) {
                    all[at++] = x.pool(pool, what);
                }
            }
            for (int length = 4; length <= 16; length++) {
                all[at++] = x.freeBlocks(length);
            }
            all[at++] = x.nextEvent();
            all[at++] = x.routeCount();
            for (int network = 0; network <= 11; network++) {
                all[at++] = x.renumber(network, 16);
                all[at++] = x.network(network, 4);
            }
            for (int host = 0; host <= 15; host++) {
                all[at++] = x.request(host);
                all[at++] = x.host(host, 3);
                all[at++] = x.host(host, 5);
            }
            all[at++] = x.setPolicy(0);
            // Without networks nothing else tells the times.
            all[at++] = x.setTimes(60, 100);
            return Arrays.copyOf(all, at);
        }
    }
}
