/** Promises 7 to 21, 34 and 35: what nodes do with letters, one by one, worked out by hand. */
public final class LettersTest {
    static final String PAIR = "node a;node b;edge a b 5;";
    static final String LINE = "node a;node b;node c;edge a b 1;edge b c 2;";

    public static void main(String[] args) {
        pairOfNodes();
        absorbed();
        wrongInputs();
        roundsAndSteps();
        ruleChooses();
        ruleLevels();
        weights();
        undone();
        undoneEach();
        spelling();
        Check.close();
    }

    static void node(AskingFragments x, int n, int... want) {
        for (int w = 0; w < want.length; w++) Check.is("node(" + n + ", " + w + ")", x.node(n, w), want[w]);
    }

    static void letter(AskingFragments x, int k, int... want) {
        for (int w = 0; w < want.length; w++) Check.is("letter(" + k + ", " + w + ")", x.letter(k, w), want[w]);
    }

    static void pairOfNodes() {
        AskingFragments x = Check.with(PAIR);
        node(x, 0, 0, 0, -1, -1, -1, -1, -1, 0, 0, 0, 0);
        Check.is("wake", x.wake(0), 0);
        node(x, 0, 2, 0, -1, -1, -1, -1, -1, 0, 0, 0, 0);
        letter(x, 0, 0, 0, 0, -1, -1, 0, 1);
        Check.is("first end", x.edge(0, 3), 1);
        Check.is("second end", x.edge(0, 4), 0);
        Check.is("b is woken by connect", x.take(0), 0);
        Check.is("second end", x.edge(0, 4), 1);
        letter(x, 0, 0, 0, 0, -1, -1, 2, 1);
        letter(x, 1, 0, 1, 0, -1, -1, 0, 1);
        letter(x, 2, 1, 1, 1, 0, 1, 0, 2);
        Check.is("two on the way", x.onWay(1), 2);
        node(x, 1, 2, 0, -1, -1, -1, -1, -1, 0, 0, 0, 1);
        Check.is("they merge", x.take(1), 0);
        Check.is("begin", x.take(1), 0);
        node(x, 0, 2, 1, 0, 0, -1, -1, -1, 0, 0, 0, 2);
        letter(x, 3, 1, 0, 1, 0, 1, 0, 2);
        letter(x, 4, 5, 0, -1, -1, -1, 0, 3);
        Check.is("begin there", x.take(0), 0);
        Check.is("report there", x.take(0), 0);
        Check.is("it has halted", x.node(1, 8), 1);
        Check.is("the other not yet", x.now(8), 1);
        Check.is("report", x.take(1), 0);
        node(x, 0, 2, 1, 0, 0, -1, -1, -1, 0, 1, 0, 3);
        int[] now = {6, 0, 0, 6, 0, 1, 2, 1, 2, 3, 0};
        for (int w = 0; w < now.length; w++) Check.is("now(" + w + ")", x.now(w), now[w]);
        int[] sent = {2, 2, 0, 0, 0, 2, 0, -1};
        for (int w = 0; w < sent.length; w++) Check.is("sent(" + w + ")", x.sent(w), sent[w]);
        Check.is("sent(-1)", x.sent(-1), -1);
        Check.is("now(-1)", x.now(-1), -1);
    }

    /** c connects to a fragment that is higher: it waits, or is let in with a begin of that level. */
    static void absorbed() {
        AskingFragments x = Check.with(LINE);
        Check.is("wake c", x.wake(2), 0);
        letter(x, 0, 0, 3, 0, -1, -1, 0, 1);
        Check.is("b wakes, and defers: its lightest is another", x.take(3), 2);
        Check.is("b sends to a", x.onWay(1), 1);
        Check.is("waits, number", x.waits(1, 0, 0), 0);
        Check.is("waits, why", x.waits(1, 0, 1), 2);
        Check.is("deferred there", x.node(1, 9), 1);
        Check.is("its clock stays", x.node(1, 10), 0);
        Check.is("where", x.letter(0, 5), 1);
        Check.is("a wakes", x.take(1), 0);
        Check.is("connect of a", x.take(0), 0);
        letter(x, 4, 1, 1, 1, 0, 1, 0, 2);
        Check.is("begin of a lets in c, too", x.take(0), 0);
        node(x, 1, 1, 1, 0, 0, -1, -1, 1, 1, 0, 0, 2);
        // b tests its last basic edge, that to c; then c, who waits there, is let in.
        letter(x, 5, 2, 2, 1, 0, -1, 0, 3);
        letter(x, 6, 1, 2, 1, 0, 1, 0, 3);
        Check.is("deferred no more", x.now(2), 0);
        Check.is("how often", x.now(4), 1);
        Check.is("c defers the test", x.take(2), 1);
        Check.is("c has begun", x.take(2), 0);
        // c has no basic edge: it reports, and then answers the test that waited.
        letter(x, 7, 5, 3, -1, -1, -1, 0, 4);
        letter(x, 8, 4, 3, -1, -1, -1, 0, 4);
        Check.is("the branch stays one", x.edge(1, 4), 1);
        Check.is("deferred no more", x.node(2, 9), 0);
        Check.is("how often", x.now(4), 2);
        Check.is("c's report", x.take(3), 0);
        node(x, 1, 1, 1, 0, 0, -1, -1, 1, 0, 0, 0, 4);
        Check.is("a's begin, that it halts later", x.take(1), 0);
        Check.is("its report comes too soon", x.take(0), 3);
        Check.is("waits, why", x.waits(1, 0, 1), 3);
        Check.is("the reject frees it", x.take(3), 0);
        Check.is("b's end stays a branch", x.edge(1, 3), 1);
        node(x, 1, 2, 1, 0, 0, -1, -1, -1, 0, 1, 0, 4);
        Check.is("b's report", x.take(1), 0);
        Check.is("both have halted", x.now(8), 2);
        Check.is("quiet", x.now(1), 0);
    }

    static void wrongInputs() {
        AskingFragments x = Check.with(LINE);
        x.wake(0);
        for (int n : new int[] {-1, 3, Integer.MAX_VALUE, Integer.MIN_VALUE}) {
            Check.none("node", () -> x.node(n, 0));
            Check.none("fragment", () -> x.fragment(n, 0));
            Check.is("wake", x.wake(n), -1);
            Check.is("waits", x.waits(n, 0, 0), -1);
        }
        for (int w : new int[] {-1, 11, Integer.MAX_VALUE}) Check.none("node", () -> x.node(0, w));
        for (int e : new int[] {-1, 2, Integer.MAX_VALUE, Integer.MIN_VALUE}) Check.none("edge", () -> x.edge(e, 0));
        for (int w : new int[] {-1, 6}) Check.none("edge", () -> x.edge(0, w));
        for (int k : new int[] {-1, 1, Integer.MAX_VALUE, Integer.MIN_VALUE}) Check.none("letter", () -> x.letter(k, 0));
        for (int w : new int[] {-1, 7}) Check.none("letter", () -> x.letter(0, w));
        for (int w : new int[] {-1, 5}) Check.none("fragment", () -> x.fragment(0, w));
        for (int way : new int[] {-1, 4, Integer.MAX_VALUE, Integer.MIN_VALUE}) {
            Check.is("onWay", x.onWay(way), -1);
            Check.is("take", x.take(way), -1);
        }
        Check.is("take of an empty way", x.take(3), -1);
        Check.is("wake one who is awake", x.wake(0), 1);
        Check.is("waits(0, -1, 0)", x.waits(0, -1, 0), -1);
        Check.is("rounds(0)", x.rounds(0), -1);
        Check.is("rounds(21)", x.rounds(21), -1);
        Check.is("steps(0)", x.steps(0), -1);
        Check.is("steps(251)", x.steps(251), -1);
        Check.is("one act alone can be undone", x.undo(), 0);
        Check.is("and no more", x.undo(), -1);
    }

    static void roundsAndSteps() {
        AskingFragments x = Check.with(PAIR);
        Check.is("no rounds without letters", x.rounds(20), 0);
        Check.is("none counted", x.now(10), 0);
        Check.is("no steps", x.steps(250), 0);
        Check.is("nothing to undo", x.undo(), -1);
        x.wake(0);
        // 1: connect. 2: connect and begin of b. 3: begin of a, report of a that came behind it. 4: report.
        Check.is("first round", x.rounds(1), 1);
        Check.is("second round", x.rounds(1), 2);
        Check.is("two on way 0", x.onWay(0), 2);
        Check.is("third round", x.rounds(1), 2);
        Check.is("fourth round", x.rounds(20), 1);
        Check.is("rounds so far", x.now(10), 4);
        Check.is("again", x.again(), 0);
        Check.is("no rounds so far", x.now(10), 0);
        Check.is("again once more", x.again(), 1);
        x.wake(1);
        Check.is("steps", x.steps(4), 4);
        Check.is("steps", x.steps(250), 2);
        Check.is("no rounds by steps", x.now(10), 0);
        Check.is("halted", x.now(8), 2);
        // A round takes what is there at its beginning: what comes on a later way meanwhile waits for the next.
        AskingFragments y = Check.with("node a;node b;edge a b 5;");
        y.wake(0);
        y.wake(1);
        Check.is("both connects", y.rounds(1), 2);
        Check.is("both begins are there", y.onWay(0) + 10 * y.onWay(1), 11);
    }

    static AskingFragments four() {
        // All awake: connects on 0 (a b), 1 (b a), 3 (c b), 5 (d c).
        AskingFragments x = Check.with("node a;node b;node c;node d;edge a b 1;edge b c 2;edge c d 3;");
        for (int n = 3; n >= 0; n--) x.wake(n);
        return x;
    }

    static void choice(AskingFragments x, String rule, int want) {
        Check.is("rule " + rule, Check.rule(x, rule) >= 0, true);
        Check.is("choice by " + rule, x.choice(), want);
    }

    static void ruleChooses() {
        AskingFragments x = four();
        choice(x, "", 0);
        choice(x, "old;", 5);
        choice(x, "new;", 0);
        choice(x, "light;", 0);
        choice(x, "heavy;", 5);
        choice(x, "light;old;", 1);
        choice(x, "any from c;", 3);
        choice(x, "any to c;", 5);
        choice(x, "any to b;", 0);
        choice(x, "any to b;old;", 3);
        choice(x, "late any to b;", 1);
        choice(x, "late any to b;old;", 5);
        choice(x, "any over 1;", 3);
        choice(x, "any over 2;", 5);
        choice(x, "any over 3;", 0);
        choice(x, "any to b from c;", 3);
        // Nothing of an earlier rule's conditions is left in a shorter one.
        choice(x, "any to d over 3 level 9 from d;", 0);
        choice(x, "any from c;", 3);
        choice(x, "any from c over 1;", 3);
        choice(x, "test;old;", 5);
        choice(x, "late any;old;", 5);
        choice(x, "late connect;", 0);
        choice(x, "connect level 0 over 1;", 3);
        choice(x, "connect level 1;old;", 5);
        choice(x, "late any level 0;old;", 5);
        Check.is("steps go by the rule", Check.rule(x, "heavy;"), 1);
        Check.is("a step", x.steps(1), 1);
        Check.is("the heaviest was taken", x.onWay(5), 0);
        AskingFragments y = Check.with(PAIR);
        Check.is("quiet", y.choice(), -1);
    }

    static void ruleLevels() {
        AskingFragments x = Check.with("node a;node b;node c;node d;edge a b 1;edge b c 2;edge c d 3;");
        x.wake(0);
        x.take(0);
        x.take(1);
        x.wake(3);
        // Begin 1 on 0 (a to b) and on 1 (b to a), connect 0 on 5 (d to c).
        choice(x, "low;", 5);
        choice(x, "high;", 0);
        choice(x, "any level 0;", 5);
        choice(x, "any level 1;new;", 0);
        choice(x, "begin;old;", 1);
        choice(x, "late begin;", 5);
        x.take(1);
        // a has nothing to test: its report without a level comes behind the begin on 0.
        x.take(0);
        Check.is("report first now", x.letter(5, 0), 5);
        choice(x, "low;", 0);
        choice(x, "high;", 2);
        choice(x, "any level 0;", 5);
        choice(x, "report;", 0);
        choice(x, "late any level 1;old;", 5);
    }

    static void weights() {
        AskingFragments x = Check.with(LINE);
        for (int e : new int[] {-1, 2}) Check.is("weigh", x.weigh(e, 5), -1);
        for (int w : new int[] {0, 100, -1}) Check.is("weigh", x.weigh(0, w), -1);
        Check.is("it is", x.weigh(0, 1), 2);
        Check.is("99", x.weigh(0, 99), 0);
        Check.is("is 99", x.edge(0, 2), 99);
        x.wake(1);
        Check.is("the order changed, too", x.onWay(2), 1);
        Check.is("not asleep", x.weigh(0, 1), 1);
        Check.is("not asleep goes ahead of it is", x.weigh(0, 99), 1);
        Check.is("no such edge goes ahead of both", x.weigh(7, 99), -1);
        Check.is("again", x.again(), 0);
        Check.is("the weight stays", x.edge(0, 2), 99);
        Check.is("no letters", x.now(0), 0);
        Check.is("ends are basic", x.edge(1, 3), 0);
        // Of like weights the edge of the lower number is the lighter one.
        Check.is("like", x.weigh(0, 2), 0);
        x.wake(1);
        Check.is("edge 0 is lighter", x.onWay(1), 1);
    }

    static void undone() {
        AskingFragments x = Check.with(PAIR);
        Check.is("nothing", x.undo(), -1);
        for (int w = 10; w < 19; w++) Check.is("weigh", x.weigh(0, w), 0);
        for (int left = 7; left >= 0; left--) Check.is("undo", x.undo(), left);
        Check.is("eight are kept", x.undo(), -1);
        Check.is("the weight of the ninth act back", x.edge(0, 2), 10);
        Check.is("weigh", x.weigh(0, 11), 0);
        Check.is("rule", Check.rule(x, "new;"), 1);
        Check.is("what does nothing is not kept", x.weigh(0, 11) + x.again() + x.wake(9) + x.take(0) + x.rounds(3) + x.steps(3), 2 + 1 - 1 - 1);
        Check.is("undo", x.undo(), 0);
        Check.is("weight", x.edge(0, 2), 10);
        Check.is("the rule stays", x.count(2), 1);
        Check.is("weigh", x.weigh(0, 12), 0);
        Check.is("a fault", Check.net(x, "node"), -5);
        Check.is("leaves what can be undone", x.undo(), 0);
        Check.is("weigh", x.weigh(0, 13), 0);
        Check.is("a new net", Check.net(x, PAIR), 3);
        Check.is("nothing can be undone", x.undo(), -1);
    }

    static void undoneEach() {
        AskingFragments x = Check.with(PAIR);
        x.wake(0);
        x.take(0);
        x.rounds(1);
        x.steps(1);
        x.drawn(20, 5);
        Check.is("all of them", x.now(3) > 4, true);
        x.again();
        Check.is("again undone", x.undo(), 5);
        Check.is("awake", x.now(6), 2);
        Check.is("drawn undone", x.undo(), 4);
        Check.is("handled", x.now(3), 4);
        Check.is("steps undone", x.undo(), 3);
        Check.is("handled", x.now(3), 3);
        Check.is("rounds", x.now(10), 1);
        Check.is("rounds undone", x.undo(), 2);
        Check.is("handled", x.now(3), 1);
        Check.is("rounds", x.now(10), 0);
        Check.is("take undone", x.undo(), 1);
        Check.is("handled", x.now(3), 0);
        Check.is("on its way again", x.letter(0, 5), 0);
        Check.is("b sleeps", x.node(1, 0), 0);
        Check.is("wake undone", x.undo(), 0);
        Check.is("no letters", x.now(0), 0);
        Check.none("no letter", () -> x.letter(0, 0));
        // A letter that is deferred counts as taken.
        AskingFragments y = Check.with(LINE);
        y.wake(2);
        Check.is("deferred", y.take(3), 2);
        Check.is("undone", y.undo(), 1);
        Check.is("not deferred", y.now(2) + y.now(4) + y.node(1, 9), 0);
        Check.is("on its way", y.onWay(3), 1);
    }

    static void spelling() {
        AskingFragments x = Check.with("node one;node b;node cc;edge one b 1;edge b cc 2;edge one cc 3;");
        Check.is("no letter", x.spell(0), -1);
        Check.is("nothing spelled", x.byteAt(0), -1);
        x.wake(0);
        x.wake(2);
        x.steps(250);
        Check.spelled(x, 0, "one>b connect 0");
        Check.spelled(x, 1, "cc>b connect 0");
        boolean[] seen = new boolean[7];
        for (int k = 0; k < x.now(0); k++) {
            int kind = x.letter(k, 0);
            if (seen[kind]) continue;
            seen[kind] = true;
            String[] names = {"one", "b", "cc"};
            int way = x.letter(k, 1);
            String text = names[x.edge(way / 2, way % 2)] + ">" + names[x.edge(way / 2, 1 - way % 2)] + " ";
            String told = x.letter(k, 3) < 0 ? "-" : "" + x.letter(k, 3);
            switch (kind) {
                case 0: text += "connect " + x.letter(k, 2); break;
                case 1: text += "begin " + x.letter(k, 2) + " " + told + " " + x.letter(k, 4); break;
                case 2: text += "test " + x.letter(k, 2) + " " + told; break;
                case 3: text += "accept"; break;
                case 4: text += "reject"; break;
                case 5: text += "report " + told; break;
                default: text += "change"; break;
            }
            Check.spelled(x, k, text);
        }
        Check.is("reports, tests, rejects were there", seen[1] && seen[2] && seen[5], true);
        Check.is("spell", x.spell(0), 15);
        Check.is("spell of none", x.spell(1000), -1);
        Check.is("spell of none", x.spell(-1), -1);
        Check.is("the latest stays", x.byteAt(3), '>');
        Check.is("a new net", Check.net(x, "node z;"), 1);
        Check.is("the latest stays", x.byteAt(0), 'o');
    }
}
