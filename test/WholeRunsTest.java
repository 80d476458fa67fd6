/** Promises 29 to 33, 36 and 37: whole runs, drawn ones, images; and what holds of every run. */
public final class WholeRunsTest {
    static final String PAIR = "node a;node b;edge a b 5;";
    static final String CHAIN = "node a;node b;node c;node d;edge a b 1;edge b c 3;edge c d 2;";
    static final String WIDE = "node a;node b;node c;node d;node e;node f;node g;node h;node i;node j;node k;node l;"
        + "edge a b 7;edge b c 3;edge c d 9;edge d e 4;edge e f 8;edge f g 3;edge g h 5;edge h i 7;edge i j 3;edge j k 6;edge k l 2;edge l a 4;"
        + "edge a g 6;edge b h 5;edge c i 4;edge d j 3;edge e k 2;edge f l 1;edge a d 9;edge b e 8;edge c f 7;edge g j 9;edge h k 8;edge i l 7;"
        + "edge a c 5;edge b d 6;edge c e 5;edge d f 6;edge g i 5;edge h j 6;";

    public static void main(String[] args) {
        wholeRuns();
        starters();
        coresByHand();
        drawnByHand();
        aloneAndNone();
        images();
        everyRunEndsInTheLeastTree();
        Check.close();
    }

    static void wholeRuns() {
        AskingFragments x = Check.with(PAIR);
        Check.is("quiet", x.until(), 0);
        x.wake(0);
        Check.is("six", x.until(), 6);
        Check.is("all stays", x.now(0) + 10 * x.now(3), 1);
        Check.is("one", x.steps(1), 1);
        Check.is("five", x.until(), 5);
        Check.is("starts", x.starts(0), 6);
        Check.is("starts", x.starts(1), 6);
        Check.is("no such", x.starts(2), -1);
        Check.is("no such", x.starts(-1), -1);
        Check.is("all stays", x.now(3), 1);
        Check.is("undo knows nothing of them", x.undo(), 1);
        Check.is("undo", x.undo(), 0);
        Check.is("undo", x.undo(), -1);
    }

    static void starters() {
        AskingFragments x = Check.with(CHAIN);
        int[] starts = new int[4];
        int best = 0;
        for (int n = 0; n < 4; n++) {
            starts[n] = x.starts(n);
            if (starts[n] < starts[best]) best = n;
            AskingFragments y = Check.with(CHAIN);
            y.wake(n);
            y.steps(250);
            Check.is("starts(" + n + ")", starts[n], y.now(0));
        }
        Check.is("starter", x.starter(), best);
        x.wake(2);
        x.steps(7);
        Check.is("from now on it does not matter", x.starter(), best);
        Check.is("like ones: the first", Check.with(PAIR).starter(), 0);
        Check.is("by the rule", Check.rule(x, "high;new;"), 2);
        for (int n = 0; n < 4; n++) {
            AskingFragments y = Check.with(CHAIN);
            Check.rule(y, "high;new;");
            y.wake(n);
            y.steps(250);
            Check.is("starts(" + n + ") by the rule", x.starts(n), y.now(0));
        }
    }

    static int stir(int x) { return x * 1103515245 + 12345; }

    /** The same by the face alone: which edge is the name of node a in the end. */
    static int coreOf(String net, int seed) {
        AskingFragments x = Check.with(net);
        for (int n = 0; n < x.count(0); n++) x.wake(n);
        int v = seed;
        while (x.now(1) > 0) {
            int busy = 0;
            for (int w = 0; w < 2 * x.count(1); w++) busy += x.onWay(w) > 0 ? 1 : 0;
            v = stir(v);
            int pick = (v >>> 8) % busy;
            for (int w = 0; w < 2 * x.count(1); w++) {
                if (x.onWay(w) > 0 && pick-- == 0) {
                    x.take(w);
                    break;
                }
            }
        }
        return x.node(0, 2);
    }

    static void coresByHand() {
        AskingFragments x = Check.with(PAIR);
        Check.is("the one edge", x.cores(0, 10, 3), 10);
        Check.is("n is 0", x.cores(0, 0, 3), -1);
        Check.is("n is 11", x.cores(0, 11, 3), -1);
        Check.is("no such edge", x.cores(1, 1, 3), -1);
        Check.is("no such edge", x.cores(-1, 1, 3), -1);
        Check.is("all stays", x.now(0) + x.now(6), 0);
        String ring = "node a;node b;node c;node d;node e;edge a b 1;edge b c 4;edge c d 2;edge d e 3;edge e a 4;";
        AskingFragments y = Check.with(ring);
        int[] want = new int[5];
        for (int i = 0; i < 10; i++) want[coreOf(ring, Integer.MAX_VALUE - 4 + i)]++;
        for (int e = 0; e < 5; e++) Check.is("cores of " + e, y.cores(e, 10, Integer.MAX_VALUE - 4), want[e]);
    }

    static void drawnByHand() {
        for (int seed = 1; seed < 30; seed++) {
            AskingFragments x = Check.with(CHAIN), y = Check.with(CHAIN);
            int v = seed, done = 0;
            for (int i = 0; i < 40; i++) {
                v = stir(v);
                if ((v >>> 8) % 8 == 0) {
                    v = stir(v);
                    if (y.wake((v >>> 8) % 4) == 0) done++;
                } else if (y.now(1) > 0) {
                    int busy = 0;
                    for (int w = 0; w < 6; w++) busy += y.onWay(w) > 0 ? 1 : 0;
                    v = stir(v);
                    int pick = (v >>> 8) % busy;
                    for (int w = 0; w < 6; w++) {
                        if (y.onWay(w) > 0 && pick-- == 0) {
                            y.take(w);
                            done++;
                            break;
                        }
                    }
                }
            }
            Check.is("drawn by " + seed, x.drawn(40, seed), done);
            for (int w = 0; w < 11; w++) Check.is("now(" + w + ")", x.now(w), y.now(w));
            for (int n = 0; n < 4; n++) for (int w = 0; w < 11; w++) Check.is("node", x.node(n, w), y.node(n, w));
            Check.is("undo", x.undo(), done > 0 ? 0 : -1);
            Check.is("all undone", x.now(0) + x.now(6), 0);
        }
        AskingFragments x = Check.with(PAIR);
        Check.is("drawn(0)", x.drawn(0, 1), -1);
        Check.is("drawn(61)", x.drawn(61, 1), -1);
        AskingFragments none = new AskingFragments();
        Check.is("no nodes", none.drawn(60, 1), 0);
        Check.is("no nodes", none.undo(), -1);
    }

    static void aloneAndNone() {
        AskingFragments x = Check.with("node a;node b;");
        Check.is("wake", x.wake(1), 0);
        Check.is("found", x.node(1, 0), 2);
        Check.is("halted", x.node(1, 8), 1);
        Check.is("the other not", x.node(0, 8), 0);
        Check.is("no letters", x.now(0), 0);
        Check.is("starts", x.starts(0), 0);
        Check.is("starter", x.starter(), 0);
        Check.is("until", x.until(), 0);
        Check.is("parts", x.least(2), 2);
        AskingFragments y = new AskingFragments();
        Check.is("starter", y.starter(), -1);
        Check.is("until", y.until(), 0);
        Check.is("choice", y.choice(), -1);
        Check.is("again", y.again(), 1);
        Check.is("limit", y.limit(), 0);
    }

    static void images() {
        AskingFragments x = Check.with(CHAIN);
        Check.is("no such", x.image(2), false);
        Check.is("no such", x.image(-1), false);
        Check.is("no such", x.restore(2), false);
        Check.is("nothing kept", x.restore(1), false);
        Check.is("weigh", x.weigh(0, 4), 0);
        Check.is("rule", Check.rule(x, "new;old;"), 2);
        x.wake(0);
        Check.is("image", x.image(1), true);
        Check.is("the other place is empty", x.restore(0), false);
        Check.is("and undo stays", x.undo(), 1);
        x.wake(1);
        x.spell(0);
        Check.is("a new net", Check.net(x, PAIR), 3);
        Check.is("next", x.next(), -1);
        Check.is("a fault", Check.net(x, "node"), -5);
        Check.feed(x, "new;");
        x.wake(0);
        Check.is("image", x.image(0), true);
        Check.is("restore", x.restore(1), true);
        Check.is("nothing can be undone", x.undo(), -1);
        Check.is("nodes", x.count(0), 4);
        Check.is("rule", x.count(2), 2);
        Check.is("the tape stays", x.count(3), 4);
        Check.is("fault stays", x.fault(0), 1);
        Check.is("spelled stays", x.byteAt(1), '>');
        Check.is("weight", x.edge(0, 2), 4);
        Check.is("a is awake", x.node(0, 0), 2);
        Check.is("b is not", x.node(1, 0), 0);
        Check.is("steps", x.steps(250) > 0, true);
        Check.is("restore once more", x.restore(1), true);
        Check.is("as kept", x.now(0), 1);
        Check.is("the other", x.restore(0), true);
        Check.is("nodes", x.count(0), 2);
        Check.is("rule", x.count(2), 0);
        Check.is("awake", x.now(6), 1);
        Check.is("it goes on", x.steps(250), 6);
        Check.is("its names", x.spell(1), 13);
        Check.is("b", x.byteAt(0), 'b');
    }

    static void everyRunEndsInTheLeastTree() {
        String[] rules = {"", "new;", "old;", "heavy;", "high;", "late test;new;", "late report;", "any from a;new;", "low;light;"};
        for (String rule : rules) {
            AskingFragments x = Check.with(WIDE);
            Check.is("rule " + rule, Check.rule(x, rule) >= 0, true);
            for (int n = 0; n < 12; n += 1 + rule.length() % 5) x.wake(n);
            x.steps(250);
            Check.is("quiet", x.now(1) + x.now(2), 0);
            Check.is("all awake", x.now(6), 12);
            Check.is("two halted", x.now(8), 2);
            Check.is("one fragment", x.now(7), 1);
            Check.is("of the least tree", x.fragment(5, 2), x.least(1));
            Check.is("within the limit", x.now(0) <= x.limit(), true);
            int core = x.node(0, 2);
            for (int n = 0; n < 12; n++) Check.is("all have the name", x.node(n, 2), core);
            Check.is("the core's nodes have halted", x.node(x.edge(core, 0), 8) + x.node(x.edge(core, 1), 8), 2);
        }
    }
}
