/** The bounds of part 2 of the terms (EDGES, WAYS, LETTERS, NODES) and of promises 7 to 13, step by step and by hand. */
public final class BoundsOfLettersTest {
    static final String TRIANGLE = "node a;node b;node c;edge a b 1;edge b c 2;edge a c 3;";
    static final String PAIR = "node a;node b;edge a b 5;";
    static final String THREE_PAIRS = "node a;node b;node c;node d;node e;node f;edge a b 1;edge b c 5;edge c d 1;edge d e 4;edge e f 1;";

    public static void main(String[] args) {
        likeWeightsGoByNumber();
        waysAndBack();
        lettersInTheirOrder();
        nodesAtFirst();
        wokenWithoutEdges();
        wokenByLetters();
        connectBelow();
        connectOfLikeLevel();
        testOfLikeLevel();
        testAbove();
        rejectedIfBasic();
        acceptLighterOrNot();
        reportLighterOrNot();
        reportFromInward();
        beginFound();
        beginOverOthersByNumber();
        changeOverBranches();
        deferredBehindOthers();
        deferredTillNoneCan();
        clocks();
        nodeAnswers();
        edgeAnswers();
        letterAnswers();
        onWayAnswers();
        waitsAnswers();
        wakeAnswers();
        takeAnswers();
        Check.close();
    }

    static void likeWeightsGoByNumber() {
        Check.of("EDGES are in order by WEIGHT, of like ones by number");
        String[] nets = {"edge a b 5;edge a c 5;", "edge a b 6;edge a c 5;", "edge a b 5;edge a c 6;", "edge b a 99;edge c a 98;", "edge c a 99;edge b a 99;"};
        int[] ways = {0, 2, 0, 3, 1};
        for (int i = 0; i < nets.length; i++) {
            AskingFragments x = Check.with("node a;node b;node c;" + nets[i]);
            x.wake(0);
            Check.is("the lightest of a", x.letter(0, 1), ways[i]);
        }
        // The same when a node tests: edges 1, 2 and 3 are alike, 0 is the core.
        AskingFragments y = Check.with("node a;node b;node c;node d;edge a b 1;edge a d 5;edge a c 5;edge c d 1;");
        y.wake(2);
        Check.runOver(y, 3);
        y.wake(0);
        Check.runOver(y, 0);
        Check.is("a tests the edge told first", y.node(0, 6), 1);
    }

    static void waysAndBack() {
        Check.of("WAYS: twice its number from the NODE told first to the other one, and 1 more: back");
        AskingFragments x = Check.with("node a;node b;node c;edge c b 2;edge b a 3;");
        for (int n = 0; n < 3; n++) x.wake(n);
        int[] ways = {3, 1, 0};
        for (int k = 0; k < 3; k++) Check.is("way of letter " + k, x.letter(k, 1), ways[k]);
        Check.is("the last way has none", x.onWay(2), 0);
    }

    static void lettersInTheirOrder() {
        Check.of("LETTERS are numbered from 0 in the order in which they are sent; those on one WAY are taken in that order");
        AskingFragments x = Check.with(PAIR);
        x.wake(1);
        x.wake(0);
        Check.is("b's first", x.letter(0, 1), 1);
        Check.is("a's then", x.letter(1, 1), 0);
        x.undo();
        x.take(1);
        // a woke: connect 1 and begin 2 on way 0
        Check.is("two", x.onWay(0), 2);
        x.take(0);
        Check.is("the one sent first", x.letter(1, 5), 2);
        Check.is("the other not yet", x.letter(2, 5), 0);
    }

    static void nodesAtFirst() {
        Check.of("A NODE has a STATE (ASLEEP), a LEVEL (0 at first), .. (EDGES; none at first), how many REPORTS it EXPECTS (0), a CLOCK (0)");
        AskingFragments x = Check.with(TRIANGLE);
        for (int n = 0; n < 3; n++) Check.node(x, n, 0, 0, -1, -1, -1, -1, -1, 0, 0, 0, 0);
        for (int e = 0; e < 3; e++) Check.is("ends are BASIC", x.edge(e, 3) + x.edge(e, 4), 0);
        x.wake(0);
        Check.node(x, 0, 2, 0, -1, -1, -1, -1, -1, 0, 0, 0, 0);
        Check.is("its lightest is BRANCH", x.edge(0, 3), 1);
        Check.is("not at the other one", x.edge(0, 4), 0);
        Check.is("the others BASIC", x.edge(2, 3), 0);
    }

    static void wokenWithoutEdges() {
        Check.of("It is WOKEN: it is FOUND; without EDGES it has HALTED");
        AskingFragments x = Check.with("node a;node b;node c;edge b c 1;");
        Check.is("wake", x.wake(0), 0);
        Check.node(x, 0, 2, 0, -1, -1, -1, -1, -1, 0, 1, 0, 0);
        Check.is("no letter", x.now(0), 0);
        Check.is("wake", x.wake(1), 0);
        Check.is("with an edge it has not", x.node(1, 8), 0);
        Check.is("one has", x.now(8), 1);
    }

    static void wokenByLetters() {
        Check.of("CONNECT and TEST WAKE one who is ASLEEP first, and that stays so");
        AskingFragments x = Check.with(TRIANGLE);
        x.wake(2);
        Check.is("CONNECT is deferred: edge 1 is BASIC at b", x.take(3), 2);
        Check.is("b is awake", x.node(1, 0), 2);
        Check.is("and has sent", x.onWay(1), 1);
        AskingFragments y = Check.with(TRIANGLE);
        y.wake(0);
        Check.runOver(y, 0);
        Check.is("a tests c, who is asleep", y.node(2, 0), 0);
        Check.is("TEST is deferred", y.take(4), 1);
        Check.is("c is awake", y.node(2, 0), 2);
        Check.is("c has sent", y.onWay(3), 1);
        Check.is("a level 0 as before", y.node(2, 1), 0);
        Check.is("awake ones are not woken once more", y.now(6), 3);
    }

    static void connectBelow() {
        Check.of("CONNECT l: l below its LEVEL: e is BRANCH, it sends BEGIN with its LEVEL, NAME, STATE over e; is it FINDING, it EXPECTS one more");
        AskingFragments x = star();
        x.wake(2);
        Check.is("c's connect", x.take(3), 0);
        Check.is("BRANCH at a", x.edge(1, 3), 1);
        Check.letter(x, x.now(0) - 1, 1, 2, 1, 0, 1, 0, 3);
        Check.is("EXPECTS one more", x.node(0, 7), 1);
        x.wake(3);
        Check.is("d's connect", x.take(5), 0);
        Check.is("EXPECTS two", x.node(0, 7), 2);
        Check.is("TESTED stays", x.node(0, 6), 1);
    }

    /** a and b are joined at LEVEL 1, a has c and d yet, who sleep; a tests c. */
    static AskingFragments star() {
        AskingFragments x = Check.with("node a;node b;node c;node d;edge a b 1;edge a c 5;edge a d 5;");
        x.wake(0);
        Check.is("take", x.take(0), 0);
        Check.is("take", x.take(1), 0);
        Check.is("take", x.take(1), 0);
        Check.node(x, 0, 1, 1, 0, 0, -1, -1, 1, 0, 0, 0, 2);
        Check.letter(x, 4, 2, 2, 1, 0, -1, 0, 3);
        return x;
    }

    static void connectOfLikeLevel() {
        Check.of("Else, is e BASIC: DEFERRED (why: 2). Else it sends BEGIN with its LEVEL and 1, the NAME e, FINDING over e");
        AskingFragments x = Check.with("node a;node b;node c;edge a b 1;edge b c 2;");
        x.wake(1);
        x.wake(2);
        Check.is("level 0 to level 0 over a BASIC edge", x.take(3), 2);
        Check.is("why", x.waits(1, 0, 1), 2);
        x.wake(0);
        Check.is("level 0 to level 0 over a BRANCH", x.take(0), 0);
        Check.letter(x, x.now(0) - 1, 1, 1, 1, 0, 1, 0, 2);
        Check.is("b itself stays at level 0", x.node(1, 1), 0);
        AskingFragments y = Check.with(THREE_PAIRS);
        threePairs(y);
        // b, of level 1, has chosen edge 1; c, of level 1, chooses edge 3 later on.
        Check.letter(y, y.now(0) - 1, 0, 2, 1, -1, -1, 0, y.node(1, 10) + 1);
        Check.is("c's accept", y.take(2), 0);
        Check.is("level 1 to level 1 over a BASIC edge", y.take(2), 2);
        Check.runOver(y, 2, 3, 4);
        Check.is("c is of level 2 now", y.node(2, 1), 2);
        Check.is("b is let in", y.node(2, 9), 0);
        Check.is("c's end is BRANCH", y.edge(1, 4), 1);
        Check.runOver(y, 0, 1, 2, 3, 4);
        Check.is("all are of level 2", y.fragment(0, 3) + 10 * y.now(7), 12);
        for (int n = 0; n < 6; n++) Check.is("the name", y.node(n, 2), 3);
        Check.is("halted: d, e", y.node(3, 8) + y.node(4, 8) + y.now(8), 4);
    }

    /** Pairs ab, cd, ef of level 1; b has been accepted by c and has sent CONNECT 1 behind c's ACCEPT. */
    static void threePairs(AskingFragments y) {
        for (int n = 0; n < 6; n++) y.wake(n);
        Check.runOver(y, 0);
        Check.runOver(y, 2);
        Check.runOver(y, 4);
        for (int n = 0; n < 6; n++) Check.is("level of " + n, y.node(n, 1), 1);
        Check.is("a's report waits at b", y.waits(1, 0, 1), 3);
        Check.is("b's test at c", y.take(2), 0);
        Check.is("c's test at b", y.take(3), 0);
        Check.is("c's accept at b", y.take(3), 0);
        Check.node(y, 1, 2, 1, 0, 0, 1, 1, -1, 0, 0, 0, y.node(1, 10));
    }

    static void testOfLikeLevel() {
        Check.of("TEST l, a NAME: l above its LEVEL: DEFERRED (why: 1). Else, is the NAME another one than its own, it sends ACCEPT over e");
        AskingFragments y = Check.with(THREE_PAIRS);
        for (int n = 0; n < 6; n++) y.wake(n);
        Check.runOver(y, 0);
        Check.is("b tests c of level 0", y.take(2), 1);
        Check.is("waits, why", y.waits(2, 0, 1), 1);
        Check.is("letters", y.onWay(3), 0);
        Check.runOver(y, 2);
        Check.is("handled at level 1", y.node(2, 9), 0);
        // c's own TEST goes first, by its BEGIN; what is DEFERRED there is looked at behind that.
        Check.is("TEST and ACCEPT", y.onWay(3), 2);
        Check.letter(y, y.now(0) - 1, 3, 3, -1, -1, -1, 0, y.node(2, 10) + 1);
        Check.is("the ends stay BASIC", y.edge(1, 3) + y.edge(1, 4), 0);
    }

    static void testAbove() {
        Check.of("TEST above its LEVEL is DEFERRED till it is as high");
        AskingFragments x = star();
        Check.is("level 1 to one who slept", x.take(2), 1);
        Check.is("where", x.letter(4, 5), 1);
        Check.is("c's connect", x.take(3), 0);
        Check.is("begin", x.take(2), 0);
        Check.is("handled by the BEGIN", x.letter(4, 5), 2);
        Check.node(x, 2, 2, 1, 0, 1, -1, -1, -1, 0, 0, 0, 3);
        Check.is("REPORT and REJECT", x.onWay(3), 2);
    }

    static void rejectedIfBasic() {
        Check.of("Else e is REJECTED, if it was BASIC; and it sends REJECT over e, but if TESTED is e, it TESTS");
        AskingFragments x = star();
        x.take(2);
        x.take(3);
        x.take(2);
        Check.is("at c it is BRANCH, and stays so", x.edge(1, 4), 1);
        Check.is("report", x.take(3), 0);
        Check.is("a still tests: no REPORT of its own", x.node(0, 0), 1);
        Check.of("REJECT: e is REJECTED, if it was BASIC; it TESTS");
        Check.is("reject", x.take(3), 0);
        Check.is("at a it is BRANCH, and stays so", x.edge(1, 3), 1);
        Check.is("it tests the next one", x.node(0, 6), 2);
        Check.of("but if TESTED is e, it TESTS");
        AskingFragments y = bothTest();
        int sent = y.now(0);
        Check.is("a's test at c", y.take(4), 0);
        Check.is("REJECTED at c", y.edge(2, 4), 2);
        Check.is("not at a yet", y.edge(2, 3), 0);
        Check.is("no REJECT, but c's REPORT", y.now(0) - sent, 1);
        Check.is("its kind", y.letter(sent, 0), 5);
        Check.is("TESTED is none", y.node(2, 6), -1);
        Check.is("c's test at a", y.take(5), 0);
        Check.is("REJECTED at a", y.edge(2, 3), 2);
        Check.is("no REJECT, but a's REPORT", y.letter(y.now(0) - 1, 0), 5);
        Check.is("no REJECT but b's tested one", y.sent(4), 1);
        AskingFragments z = oneTests();
        Check.is("b's REJECT leaves a BRANCH alone, c's test a's BASIC end", z.take(5), 0);
        Check.is("REJECTED at a", z.edge(2, 3), 2);
        Check.is("a's REJECT", z.letter(z.now(0) - 1, 0), 4);
        Check.is("REJECT at c", z.take(4), 0);
        Check.is("REJECTED at c", z.edge(2, 4), 2);
    }

    /** A triangle in which a and c, of one fragment, test one another. */
    static AskingFragments bothTest() {
        AskingFragments x = Check.with(TRIANGLE);
        x.wake(0);
        x.wake(2);
        Check.is("a's connect", x.take(0), 0);
        Check.is("c's connect waits at b", x.take(3), 2);
        Check.is("b's connect", x.take(1), 0);
        Check.is("begin at b", x.take(0), 0);
        Check.is("begin at a", x.take(1), 0);
        Check.is("b's test waits at c", x.take(2), 1);
        Check.is("begin at c", x.take(2), 0);
        Check.is("a tests edge 2", x.node(0, 6), 2);
        Check.is("c tests edge 2", x.node(2, 6), 2);
        Check.is("one letter each", x.onWay(4) + 10 * x.onWay(5), 11);
        return x;
    }

    /** A square a b c d with all in one fragment, d's edge to a lighter: a tests another one than c's. */
    static AskingFragments oneTests() {
        AskingFragments x = Check.with("node a;node b;node c;node d;edge a b 1;edge b c 2;edge a c 9;edge a d 8;");
        x.wake(0);
        x.wake(2);
        x.take(0);
        x.take(3);
        x.take(1);
        x.take(0);
        x.take(1);
        x.take(2);
        x.take(2);
        Check.is("a tests edge 3", x.node(0, 6), 3);
        Check.is("c tests edge 2", x.node(2, 6), 2);
        return x;
    }

    static void acceptLighterOrNot() {
        Check.of("ACCEPT: TESTED is none; is e LIGHTER than BEST (than none each is), BEST and TOWARD are e; it SUMS UP");
        AskingFragments x = accepting(9, 8);
        Check.node(x, 1, 1, 1, 0, 0, 1, 3, 2, 0, 0, 1, x.node(1, 10));
        Check.is("b is accepted over edge 2, heavier than its BEST", x.take(5), 0);
        Check.node(x, 1, 2, 1, 0, 0, 1, 3, -1, 0, 0, 0, x.node(1, 10));
        AskingFragments y = accepting(8, 9);
        Check.node(y, 1, 1, 1, 0, 0, 1, 3, 2, 0, 0, 1, y.node(1, 10));
        Check.is("lighter", y.take(5), 0);
        Check.node(y, 1, 2, 1, 0, 0, 2, 2, -1, 0, 0, 0, y.node(1, 10));
        AskingFragments z = accepting(8, 8);
        Check.is("alike: the lower number is lighter", z.take(5), 0);
        Check.node(z, 1, 2, 1, 0, 0, 2, 2, -1, 0, 0, 0, z.node(1, 10));
    }

    /**
     * Fragment a b c (b between the two, core ab), d e and f g next to it by edges 2 (b d) and 3 (c f) of these
     * weights: c has reported edge 3, and d's ACCEPT is on its way to b.
     */
    static AskingFragments accepting(int overD, int overF) {
        AskingFragments x = Check.with("node a;node b;node c;node d;node e;node f;node g;edge a b 1;edge b c 3;edge b d " + overD + ";edge c f " + overF
            + ";edge d e 1;edge f g 1;");
        x.wake(3);
        Check.runOver(x, 4);
        x.wake(5);
        Check.runOver(x, 5);
        x.wake(0);
        x.wake(2);
        Check.is("c's connect waits", x.take(3), 2);
        Check.runOver(x, 0, 1);
        Check.is("b, c are joined", x.fragment(1, 1), 7);
        Check.is("b tests edge 2", x.node(1, 6), 2);
        Check.is("c tests edge 3", x.node(2, 6), 3);
        Check.is("b expects c's report", x.node(1, 7), 1);
        x.take(4);
        x.take(6);
        while (x.onWay(7) > 0) x.take(7);
        Check.is("c reports edge 3", x.letter(x.now(0) - 1, 3), 3);
        Check.runOver(x, 1);
        Check.is("d's TEST, then its ACCEPT", x.onWay(5), 2);
        Check.is("d's TEST", x.take(5), 0);
        return x;
    }

    static void reportLighterOrNot() {
        Check.of("REPORT w, e not INWARD: it EXPECTS one less; is w LIGHTER than BEST, BEST is w, TOWARD e; it SUMS UP");
        AskingFragments x = reporting(8, 9);
        // a's REPORT waits at b, and d's CONNECT: that is let in when b has chosen the same edge.
        Check.node(x, 1, 1, 1, 0, 0, 2, 2, -1, 1, 0, 2, x.node(1, 10));
        Check.is("c reports a heavier one", x.take(3), 0);
        Check.node(x, 1, 2, 1, 0, 0, 2, 2, -1, 0, 0, 0, x.node(1, 10));
        AskingFragments y = reporting(9, 8);
        Check.is("a lighter one", y.take(3), 0);
        Check.node(y, 1, 2, 1, 0, 0, 1, 3, -1, 0, 0, 1, y.node(1, 10));
        AskingFragments z = reporting(8, 8);
        Check.is("one alike, of a greater number", z.take(3), 0);
        Check.node(z, 1, 2, 1, 0, 0, 2, 2, -1, 0, 0, 0, z.node(1, 10));
        AskingFragments w = star();
        w.wake(2);
        w.take(2);
        w.take(3);
        w.take(2);
        Check.is("a report of none", w.take(3), 0);
        Check.node(w, 0, 1, 1, 0, 0, -1, -1, 1, 0, 0, 0, 4);
    }

    /** As accepting(), but b is accepted first, and c's REPORT is on its way. */
    static AskingFragments reporting(int overD, int overF) {
        AskingFragments x = Check.with("node a;node b;node c;node d;node e;node f;node g;edge a b 1;edge b c 3;edge b d " + overD + ";edge c f " + overF
            + ";edge d e 1;edge f g 1;");
        x.wake(3);
        Check.runOver(x, 4);
        x.wake(5);
        Check.runOver(x, 5);
        x.wake(0);
        x.wake(2);
        x.take(3);
        Check.runOver(x, 0, 1);
        Check.runOver(x, 2);
        Check.is("EXPECTS is not 0: it is not FOUND", x.node(1, 0), 1);
        x.take(6);
        while (x.onWay(7) > 0) x.take(7);
        Check.is("c's report", x.onWay(3), 1);
        return x;
    }

    static void reportFromInward() {
        Check.of("e INWARD: FINDING: DEFERRED (why: 3)");
        AskingFragments x = Check.with("node a;node b;node c;edge a b 1;edge b c 2;");
        x.wake(0);
        Check.runOver(x, 0);
        Check.is("a has reported none, b is FINDING", x.waits(1, 0, 1), 3);
        Check.is("not taken in", x.node(1, 7), 0);
        Check.of("are both none, it has HALTED");
        Check.runOver(x, 1);
        Check.is("b has found none", x.node(1, 5), -1);
        Check.is("b has halted", x.node(1, 8), 1);
        Check.is("a not yet", x.node(0, 8), 0);
        Check.is("b's report", x.take(1), 0);
        Check.is("a has, too", x.node(0, 8), 1);
        Check.of("else, is BEST LIGHTER than w (none: each is), it CHANGES");
        AskingFragments y = Check.with(THREE_PAIRS);
        threePairs(y);
        Check.is("b, whose BEST is 1, changed by a's REPORT of none", y.letter(y.now(0) - 1, 0), 0);
        int sent = y.now(0);
        Check.is("b's report of 1 at a, whose BEST is none", y.take(1), 0);
        Check.is("a does nothing", y.now(0) - sent, 0);
        Check.is("a has not halted", y.node(0, 8), 0);
        // c's BEST is 1 (5), d's is 3 (4): d changes, c does not.
        Check.runOver(y, 2, 3);
        Check.is("d has not heard of c", y.edge(3, 3), 0);
        Check.is("c's accept", y.take(2), 0);
        Check.runOver(y, 2);
        Check.is("d has connected", y.edge(3, 3), 1);
        Check.is("c has not", y.edge(1, 4), 0);
        Check.is("both have found", y.node(2, 5) + 10 * y.node(3, 5), 31);
    }

    static void beginFound() {
        Check.of("BEGIN: LEVEL, NAME, STATE are those; .. FINDING: it TESTS");
        AskingFragments x = late();
        Check.is("b has found", x.node(1, 0), 2);
        x.wake(2);
        Check.is("c's connect", x.take(5), 0);
        Check.is("b does not expect it", x.node(1, 7), 0);
        Check.letter(x, x.now(0) - 1, 1, 4, 1, 0, 2, 0, x.node(1, 10) + 1);
        int sent = x.now(0);
        Check.is("begin at c", x.take(4), 0);
        Check.node(x, 2, 2, 1, 0, 2, -1, -1, -1, 0, 0, 0, x.letter(sent - 1, 6));
        Check.is("it does not test, though it has a BASIC edge", x.now(0) - sent, 0);
        Check.is("BASIC", x.edge(4, 3), 0);
        foundGoesOn();
        AskingFragments y = Check.with(THREE_PAIRS);
        threePairs(y);
        Check.is("c's accept", y.take(2), 0);
        Check.runOver(y, 2, 3, 4);
        Check.is("TOWARD and BEST are none again", y.node(3, 4) + y.node(3, 5) + y.node(4, 4) + y.node(4, 5), -4);
        Check.is("INWARD is the new core", y.node(3, 3) + y.node(4, 3), 6);
    }

    /** A pair c f of level 1 is let in by b, of level 2, who has FOUND edge 6: c tells f, and EXPECTS nothing for it. */
    static void foundGoesOn() {
        AskingFragments x = Check.with("node a;node b;node d;node e;node x;node y;node z;node w;node c;node f;"
            + "edge a b 1;edge d e 1;edge b d 3;edge x y 1;edge z w 1;edge y z 3;edge b x 5;edge b c 9;edge c f 1;");
        for (int n = 0; n < 8; n++) x.wake(n);
        Check.runOver(x, 0, 1, 2);
        Check.runOver(x, 3, 4, 5);
        Check.is("x, of level 1, tests b, of level 2", x.take(13), 0);
        Check.is("b's test waits at x", x.take(12), 1);
        Check.is("x is accepted", x.take(12), 0);
        Check.runOver(x, 3, 4, 5);
        while (x.onWay(13) > 0) x.take(13);
        Check.is("b is of level 2", x.node(1, 1), 2);
        Check.runOver(x, 0, 2);
        Check.is("and has FOUND", x.node(1, 0) * 10 + x.node(1, 5), 26);
        x.wake(8);
        Check.runOver(x, 8);
        while (x.onWay(15) > 0) x.take(15);
        Check.is("c is accepted", x.take(14), 0);
        Check.runOver(x, 8);
        Check.is("c connects", x.onWay(15), 1);
        Check.is("level 1 to level 2", x.take(15), 0);
        Check.is("b EXPECTS nothing for it", x.node(1, 7), 0);
        int sent = x.now(0);
        Check.is("begin at c", x.take(14), 0);
        Check.is("one letter", x.now(0) - sent, 1);
        Check.letter(x, sent, 1, 16, 2, x.node(1, 2), 2, 0, x.node(8, 10) + 1);
        Check.node(x, 8, 2, 2, x.node(1, 2), 7, -1, -1, -1, 0, 0, 0, x.node(8, 10));
        Check.is("and at f", x.take(16), 0);
        Check.node(x, 9, 2, 2, x.node(1, 2), 8, -1, -1, -1, 0, 0, 0, x.node(9, 10));
        Check.is("f tells none", x.now(0) - sent, 1);
    }

    /** Fragment a b that has found edge 1 to d e; c, who sleeps yet, has an edge to b and one to f, who sleeps, too. */
    static AskingFragments late() {
        AskingFragments x = Check.with("node a;node b;node c;node d;node e;node f;edge a b 1;edge b d 3;edge b c 9;edge d e 1;edge c f 10;");
        x.wake(3);
        Check.runOver(x, 3);
        x.wake(0);
        Check.runOver(x, 0);
        Check.is("test at d", x.take(2), 0);
        while (x.onWay(3) > 0) x.take(3);
        return x;
    }

    static void beginOverOthersByNumber() {
        Check.of("over each other BRANCH it sends the same (FINDING: it EXPECTS one more for each); of several in the order of the EDGES' numbers");
        AskingFragments x = Check.with("node a;node b;node c;node d;node e;node f;edge b c 9;edge b d 8;edge a b 1;edge a e 20;edge e f 1;");
        x.wake(4);
        Check.runOver(x, 4);
        x.wake(2);
        x.wake(3);
        x.wake(0);
        Check.runOver(x, 2);
        Check.runOver(x, 0, 1, 2);
        Check.is("b has three branches", x.edge(0, 3) + x.edge(1, 3) + x.edge(2, 4), 3);
        x.steps(250);
        int[] begins = new int[20];
        int count = 0;
        for (int k = 0; k < x.now(0); k++) {
            if (x.letter(k, 0) == 1 && x.letter(k, 2) == 2 && x.letter(k, 1) < 6 && x.letter(k, 1) != 4) begins[count++] = x.letter(k, 1);
        }
        Check.is("two by b", count, 2);
        Check.is("the lower number first, though it is heavier", begins[0], 0);
        Check.is("the other", begins[1], 2);
        Check.is("none is expected in the end", x.node(1, 7), 0);
        Check.is("all of level 2", x.node(2, 1) + x.node(3, 1), 4);
    }

    static void changeOverBranches() {
        Check.of("It CHANGES over TOWARD: is that BRANCH, it sends CHANGE over it, else CONNECT with its LEVEL, and it is BRANCH");
        AskingFragments x = Check.with("node a;node b;node c;node d;node e;edge a b 1;edge b c 2;edge c d 3;edge d e 1;");
        x.wake(3);
        Check.runOver(x, 3);
        x.wake(0);
        x.wake(2);
        x.take(3);
        Check.runOver(x, 0, 1);
        Check.is("c tests d", x.node(2, 6), 2);
        x.take(4);
        while (x.onWay(5) > 0) x.take(5);
        Check.is("c reports", x.take(3), 0);
        Check.is("b changes over a BRANCH", x.letter(x.now(0) - 1, 0), 6);
        Check.letter(x, x.now(0) - 1, 6, 2, -1, -1, -1, 0, x.node(1, 10) + 1);
        Check.is("c's end is BASIC yet", x.edge(2, 3), 0);
        Check.is("CHANGE at c", x.take(2), 0);
        Check.letter(x, x.now(0) - 1, 0, 4, 1, -1, -1, 0, x.node(2, 10) + 1);
        Check.is("c's end is BRANCH now", x.edge(2, 3), 1);
        Check.is("d's not", x.edge(2, 4), 0);
    }

    static void deferredBehindOthers() {
        Check.of("or it is DEFERRED there, behind others");
        AskingFragments x = crowd();
        int[] want = {2, 0, 1};
        for (int k = 0; k < 3; k++) {
            Check.is("waits(1, " + k + ", 0)", x.waits(1, k, 0), want[k]);
            Check.is("waits(1, " + k + ", 1)", x.waits(1, k, 1), 2);
        }
        Check.is("none behind", x.waits(1, 3, 0), -1);
        Check.is("three there", x.node(1, 9), 3);
    }

    /** c, d, e have sent CONNECT to b, and e's was taken first, then c's, then d's. */
    static AskingFragments crowd() {
        AskingFragments x = Check.with("node a;node b;node c;node d;node e;edge a b 1;edge b c 5;edge b d 6;edge b e 7;");
        x.wake(2);
        x.wake(3);
        x.wake(4);
        Check.is("e's", x.take(7), 2);
        Check.is("c's", x.take(3), 2);
        Check.is("d's", x.take(5), 2);
        return x;
    }

    static void deferredTillNoneCan() {
        Check.of("Whenever a NODE has HANDLED one, of those DEFERRED there the first that can be HANDLED now is, and so on, till none can");
        AskingFragments x = crowd();
        Check.is("a wakes", x.take(1), 0);
        int first = x.now(0);
        Check.is("a's connect frees none yet", x.take(0), 0);
        Check.is("three wait", x.now(2), 3);
        first = x.now(0);
        Check.is("a's begin frees all", x.take(0), 0);
        Check.is("none waits", x.now(2) + x.node(1, 9), 0);
        Check.is("how often", x.now(4), 3);
        // b tests c first, then lets in e, c and d in the order in which they were deferred.
        int[] ways = {2, 6, 2, 4}, kinds = {2, 1, 1, 1};
        for (int i = 0; i < 4; i++) {
            Check.is("way of the letter", x.letter(first + i, 1), ways[i]);
            Check.is("its kind", x.letter(first + i, 0), kinds[i]);
        }
        Check.is("three are expected", x.node(1, 7), 3);
        // One in the middle goes, the others keep their order: at c a TEST waits ahead of a CONNECT that can be handled later.
        AskingFragments y = Check.with(THREE_PAIRS);
        for (int n = 0; n < 6; n++) y.wake(n);
        Check.runOver(y, 0, 4);
        Check.is("b's test at c", y.take(2), 1);
        Check.is("e's test at d", y.take(7), 1);
        Check.is("two wait", y.node(2, 9) + y.node(3, 9), 2);
        Check.runOver(y, 2);
        Check.is("none of them waits; c's report does not either", y.node(2, 9), 0);
    }

    static void clocks() {
        Check.of("DEPTH: 1 more than the CLOCK; its CLOCK becomes the DEPTH of that, if that is greater, ahead of all that it sends by that LETTER, but behind what it sends by being WOKEN");
        AskingFragments x = Check.with(PAIR);
        x.wake(0);
        Check.is("DEPTH of the first", x.letter(0, 6), 1);
        Check.is("a's CLOCK", x.node(0, 10), 0);
        x.take(0);
        Check.is("b's CLOCK", x.node(1, 10), 1);
        Check.is("sent by being WOKEN", x.letter(1, 6), 1);
        Check.is("sent by the LETTER", x.letter(2, 6), 2);
        Check.is("greatest", x.now(9), 2);
        AskingFragments y = star();
        y.wake(2);
        Check.is("a's CLOCK is 2", y.node(0, 10), 2);
        y.take(3);
        Check.is("a DEPTH of 1 leaves it", y.node(0, 10), 2);
        Check.is("what it sends by that", y.letter(y.now(0) - 1, 6), 3);
        Check.of("one that is DEFERRED leaves the CLOCK till it is HANDLED");
        AskingFragments z = star();
        Check.is("a's test of DEPTH 3 is deferred", z.take(2), 1);
        Check.is("c's CLOCK", z.node(2, 10), 0);
        Check.is("sent by being WOKEN", z.letter(z.now(0) - 1, 6), 1);
        z.take(3);
        z.take(2);
        Check.is("c's CLOCK", z.node(2, 10), 3);
        Check.is("REJECT", z.letter(z.now(0) - 1, 6), 4);
        AskingFragments w = Check.with("node a;node b;node c;edge a b 1;edge b c 2;");
        w.wake(0);
        w.wake(2);
        Check.is("c's connect waits", w.take(3), 2);
        Check.is("b's CLOCK", w.node(1, 10), 0);
        Check.is("b's own connect", w.letter(2, 6), 1);
    }

    static void nodeAnswers() {
        Check.of("7: NoSuchElementException: no such ones");
        AskingFragments x = Check.with(TRIANGLE);
        x.wake(0);
        x.steps(4);
        for (int n : Check.FAR) {
            Check.throwsAndStays(x, "node(" + n + ", 0)", () -> x.node(n, 0));
            Check.throwsAndStays(x, "node(0, " + n + ")", () -> x.node(0, n));
            Check.throwsAndStays(x, "node(" + n + ", " + n + ")", () -> x.node(n, n));
        }
        Check.throwsAndStays(x, "node(3, 0)", () -> x.node(3, 0));
        Check.throwsAndStays(x, "node(3, 10)", () -> x.node(3, 10));
        Check.throwsAndStays(x, "node(2, 11)", () -> x.node(2, 11));
        Check.is("node(2, 10)", x.node(2, 10), 0);
        AskingFragments none = new AskingFragments();
        Check.throwsAndStays(none, "node(0, 0)", () -> none.node(0, 0));
        AskingFragments full = Check.with(BoundsOfTextsTest.nodes(12));
        Check.is("node(11, 0)", full.node(11, 0), 0);
        Check.throwsAndStays(full, "node(12, 0)", () -> full.node(12, 0));
        Check.is("fewer now", Check.net(full, "node a;"), 1);
        Check.throwsAndStays(full, "node(1, 0)", () -> full.node(1, 0));
        Check.throwsAndStays(full, "node(11, 0)", () -> full.node(11, 0));
    }

    static void edgeAnswers() {
        Check.of("8: NoSuchElementException: no such ones");
        AskingFragments x = Check.with(TRIANGLE);
        x.wake(0);
        x.steps(4);
        for (int n : Check.FAR) {
            Check.throwsAndStays(x, "edge(" + n + ", 0)", () -> x.edge(n, 0));
            Check.throwsAndStays(x, "edge(0, " + n + ")", () -> x.edge(0, n));
        }
        for (int w = 0; w < 6; w++) {
            int v = w;
            Check.throwsAndStays(x, "edge(3, " + w + ")", () -> x.edge(3, v));
        }
        Check.throwsAndStays(x, "edge(2, 6)", () -> x.edge(2, 6));
        int[] last = {0, 2, 3, 0, 0, 0};
        for (int w = 0; w < 6; w++) Check.is("edge(2, " + w + ")", x.edge(2, w), last[w]);
        AskingFragments none = Check.with("node a;");
        Check.throwsAndStays(none, "edge(0, 0)", () -> none.edge(0, 0));
        AskingFragments full = Check.with(BoundsOfTextsTest.nodes(12) + BoundsOfTextsTest.edges(30));
        Check.is("edge(29, 2)", full.edge(29, 2), 5);
        Check.throwsAndStays(full, "edge(30, 2)", () -> full.edge(30, 2));
    }

    static void letterAnswers() {
        Check.of("9: NoSuchElementException: no such ones; (NONE each)");
        AskingFragments x = Check.with(TRIANGLE);
        Check.throwsAndStays(x, "letter(0, 0)", () -> x.letter(0, 0));
        x.wake(0);
        x.wake(2);
        Check.throwsAndStays(x, "letter(2, 0)", () -> x.letter(2, 0));
        Check.letter(x, 1, 0, 3, 0, -1, -1, 0, 1);
        Check.throwsAndStays(x, "letter(1, 7)", () -> x.letter(1, 7));
        for (int n : Check.FAR) {
            Check.throwsAndStays(x, "letter(" + n + ", 0)", () -> x.letter(n, 0));
            Check.throwsAndStays(x, "letter(0, " + n + ")", () -> x.letter(0, n));
        }
        x.steps(250);
        int sent = x.now(0);
        Check.is("the last", x.letter(sent - 1, 5), 2);
        Check.throwsAndStays(x, "the one behind", () -> x.letter(sent, 0));
        // What each kind has: LEVEL, the NAME or EDGE told, STATE.
        boolean[][] has = {{true, false, false}, {true, true, true}, {true, true, false}, {false, false, false}, {false, false, false}, {false, true, false}, {false, false, false}};
        for (int k = 0; k < sent; k++) {
            int kind = x.letter(k, 0);
            Check.is("LEVEL", x.letter(k, 2) >= 0, has[kind][0]);
            if (kind != 5) Check.is("NAME", x.letter(k, 3) >= 0, has[kind][1]);
            Check.is("STATE", x.letter(k, 4) >= 0, has[kind][2]);
        }
        x.again();
        Check.throwsAndStays(x, "no letters again", () -> x.letter(0, 0));
    }

    static void onWayAnswers() {
        Check.of("10: LETTERS on a WAY; NONE: no such one");
        AskingFragments x = Check.with(TRIANGLE);
        for (int way = 0; way < 6; way++) Check.is("empty", x.onWay(way), 0);
        for (int way : Check.FAR) Check.stays(x, "onWay(" + way + ")", () -> x.onWay(way), -1);
        Check.stays(x, "onWay(6)", () -> x.onWay(6), -1);
        x.wake(0);
        x.take(0);
        Check.is("two", x.onWay(1), 2);
        x.take(1);
        Check.is("one", x.onWay(1), 1);
        x.take(1);
        Check.is("none", x.onWay(1), 0);
        AskingFragments none = new AskingFragments();
        Check.is("no ways", none.onWay(0), -1);
        AskingFragments full = Check.with(BoundsOfTextsTest.nodes(12) + BoundsOfTextsTest.edges(30));
        Check.is("onWay(59)", full.onWay(59), 0);
        Check.is("onWay(60)", full.onWay(60), -1);
    }

    static void waitsAnswers() {
        Check.of("11: the k-th LETTER that is DEFERRED at a NODE (from 0, as DEFERRED): 0 its number, 1 why. NONE: no such ones");
        AskingFragments x = crowd();
        for (int n : Check.FAR) {
            Check.stays(x, "waits(" + n + ", 0, 0)", () -> x.waits(n, 0, 0), -1);
            Check.stays(x, "waits(1, " + n + ", 0)", () -> x.waits(1, n, 0), -1);
            Check.stays(x, "waits(1, 0, " + n + ")", () -> x.waits(1, 0, n), -1);
        }
        Check.stays(x, "waits(5, 0, 0)", () -> x.waits(5, 0, 0), -1);
        Check.stays(x, "waits(1, 3, 1)", () -> x.waits(1, 3, 1), -1);
        Check.stays(x, "waits(1, 0, 2)", () -> x.waits(1, 0, 2), -1);
        for (int n : new int[] {0, 2, 3, 4}) Check.is("nothing waits there", x.waits(n, 0, 0), -1);
        Check.is("the last", x.waits(1, 2, 0), 1);
        AskingFragments none = new AskingFragments();
        Check.is("no nodes", none.waits(0, 0, 0), -1);
        // At two nodes at once: each has its own.
        AskingFragments y = Check.with("node a;node b;node c;node d;edge a b 1;edge b c 5;edge c d 2;edge b d 9;");
        y.wake(0);
        Check.runOver(y, 0);
        y.take(2);
        Check.is("c has the test", y.waits(2, 0, 0), y.letter(y.waits(2, 0, 0), 0) == 2 ? y.waits(2, 0, 0) : -2);
        Check.is("why", y.waits(2, 0, 1), 1);
        Check.is("b has the report", y.waits(1, 0, 1), 3);
        Check.is("one each", y.now(2), 2);
        Check.is("no second one", y.waits(2, 1, 0) + y.waits(1, 1, 0), -2);
    }

    static void wakeAnswers() {
        Check.of("12: a NODE is WOKEN: 0; 1 it is not ASLEEP; NONE: no such one");
        AskingFragments x = Check.with(TRIANGLE);
        for (int n : Check.FAR) Check.stays(x, "wake(" + n + ")", () -> x.wake(n), -1);
        Check.stays(x, "wake(3)", () -> x.wake(3), -1);
        Check.is("wake(2)", x.wake(2), 0);
        Check.stays(x, "wake(2)", () -> x.wake(2), 1);
        Check.is("wake(0)", x.wake(0), 0);
        x.steps(2);
        Check.stays(x, "one woken by a letter", () -> x.wake(1), 1);
        x.steps(250);
        for (int n = 0; n < 3; n++) {
            int m = n;
            Check.stays(x, "in the end", () -> x.wake(m), 1);
        }
        AskingFragments none = new AskingFragments();
        Check.stays(none, "no nodes", () -> none.wake(0), -1);
    }

    static void takeAnswers() {
        Check.of("13: the first LETTER of a WAY is TAKEN: 0 HANDLED, 1 to 3 DEFERRED, why; NONE: none is there, no such WAY");
        AskingFragments x = Check.with(TRIANGLE);
        for (int way = 0; way < 6; way++) {
            int w = way;
            Check.stays(x, "take of an empty way", () -> x.take(w), -1);
        }
        x.wake(0);
        for (int way : Check.FAR) Check.stays(x, "take(" + way + ")", () -> x.take(way), -1);
        Check.stays(x, "take(6)", () -> x.take(6), -1);
        Check.stays(x, "take(1)", () -> x.take(1), -1);
        Check.is("take(0)", x.take(0), 0);
        Check.stays(x, "empty again", () -> x.take(0), -1);
        Check.is("one act", x.undo(), 1);
        AskingFragments none = new AskingFragments();
        Check.stays(none, "no ways", () -> none.take(0), -1);
    }
}
