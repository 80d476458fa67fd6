/** The bounds of part 3 of the terms and of promises 20 to 28: what is so now, FRAGMENTS, the LEAST TREE and what is near it. */
public final class BoundsOfTreesTest {
    static final String TRIANGLE = "node a;node b;node c;edge a b 1;edge b c 2;edge a c 3;";
    static final String ALIKE = "node a;node b;node c;edge a b 3;edge b c 3;edge a c 3;";
    static final String PAIRS = "node a;node b;node c;node d;edge a b 5;edge c d 5;";
    static final String APART = "node a;node b;node c;node d;node e;edge a b 9;edge b c 1;edge c a 5;edge d e 7;";
    static final String WIDE = "node a;node b;node c;node d;node e;node f;node g;edge a b 7;edge b c 3;edge c d 9;edge d e 4;edge e f 8;edge f g 3;edge g a 5;"
        + "edge a c 7;edge b d 3;edge c e 3;edge d f 6;edge e g 8;";

    public static void main(String[] args) {
        nowAnswers();
        nowAtFirst();
        nowMidway();
        sentAnswers();
        limits();
        fragmentAnswers();
        branchAtBothEnds();
        lightestOut();
        highestLevel();
        leastAnswers();
        leastOfLikeOnes();
        parts();
        heaviestAnswers();
        heaviestOfLikeOnes();
        slackAnswers();
        slackOfLikeOnes();
        slackIsJustEnough();
        slackBelowOne();
        nextAnswers();
        nextOfLikeOnes();
        nextByAnswers();
        smallerThanBefore();
        Check.close();
    }

    static void nowAnswers() {
        Check.of("20: NONE for another what");
        AskingFragments x = Check.with(TRIANGLE);
        x.wake(0);
        x.steps(3);
        for (int w : Check.FAR) Check.stays(x, "now(" + w + ")", () -> x.now(w), -1);
        Check.stays(x, "now(11)", () -> x.now(11), -1);
        Check.is("now(10)", x.now(10), 0);
        Check.is("now(0)", x.now(0) > 0, true);
    }

    static void nowAtFirst() {
        Check.of("20: (0: no LETTERS), no NODES");
        AskingFragments none = new AskingFragments();
        for (int w = 0; w < 11; w++) Check.is("now(" + w + ") of none", none.now(w), 0);
        AskingFragments x = Check.with(TRIANGLE);
        for (int w = 0; w < 11; w++) Check.is("now(" + w + ") of a new net", x.now(w), w == 7 ? 3 : 0);
        x.wake(1);
        int[] want = {1, 1, 0, 0, 0, 0, 1, 3, 0, 1, 0};
        for (int w = 0; w < 11; w++) Check.is("now(" + w + ") with one awake", x.now(w), want[w]);
        AskingFragments full = Check.with(BoundsOfTextsTest.nodes(12));
        for (int n = 0; n < 12; n++) full.wake(n);
        int[] alone = {0, 0, 0, 0, 0, 0, 12, 12, 12, 0, 0};
        for (int w = 0; w < 11; w++) Check.is("now(" + w + ") of twelve without edges", full.now(w), alone[w]);
    }

    static void nowMidway() {
        Check.of("20: LETTERS sent so far, on WAYS, DEFERRED now, HANDLED, how often one was DEFERRED, the highest LEVEL, .. the greatest DEPTH");
        AskingFragments x = Check.with("node a;node b;node c;edge a b 1;edge b c 2;");
        x.wake(2);
        x.take(3);
        int[] deferred = {2, 1, 1, 0, 1, 0, 2, 3, 0, 1, 0};
        for (int w = 0; w < 11; w++) Check.is("now(" + w + ") with one deferred", x.now(w), deferred[w]);
        x.take(1);
        x.take(0);
        x.take(0);
        int[] freed = {7, 3, 0, 4, 1, 1, 3, 1, 0, 3, 0};
        for (int w = 0; w < 11; w++) Check.is("now(" + w + ") with none deferred", x.now(w), freed[w]);
        x.rounds(1);
        Check.is("a round", x.now(10), 1);
        x.steps(250);
        int[] end = {x.now(0), 0, 0, x.now(0), x.now(4), 1, 3, 1, 2, x.now(9), 1};
        for (int w = 0; w < 11; w++) Check.is("now(" + w + ") in the end", x.now(w), end[w]);
        int greatest = 0;
        for (int k = 0; k < x.now(0); k++) greatest = Math.max(greatest, x.letter(k, 6));
        Check.is("the greatest DEPTH", x.now(9), greatest);
    }

    static void sentAnswers() {
        Check.of("21: LETTERS of a KIND sent so far; NONE: no such one");
        AskingFragments x = Check.with(TRIANGLE);
        for (int k = 0; k < 7; k++) Check.is("none sent", x.sent(k), 0);
        for (int k : Check.FAR) Check.stays(x, "sent(" + k + ")", () -> x.sent(k), -1);
        Check.stays(x, "sent(7)", () -> x.sent(7), -1);
        x.wake(0);
        Check.is("one", x.sent(0), 1);
        Check.is("sent(7)", x.sent(7), -1);
        x.steps(250);
        int[] counted = new int[7];
        for (int k = 0; k < x.now(0); k++) counted[x.letter(k, 0)]++;
        for (int k = 0; k < 7; k++) Check.is("sent(" + k + ")", x.sent(k), counted[k]);
        x.again();
        for (int k = 0; k < 7; k++) Check.is("none sent again", x.sent(k), 0);
    }

    static void limits() {
        Check.of("LIMIT: twice the EDGES, and 5 times the NODES by the greatest number k of which 2 to the k is no more than the NODES (no NODES: 0)");
        Check.is("no nodes", new AskingFragments().limit(), 0);
        int[] powers = {0, 0, 1, 1, 2, 2, 2, 2, 3, 3, 3, 3, 3};
        for (int n = 1; n <= 12; n++) {
            Check.is("limit of " + n, Check.with(BoundsOfTextsTest.nodes(n)).limit(), 5 * n * powers[n]);
            if (n > 1) Check.is("with an edge", Check.with(BoundsOfTextsTest.nodes(n) + "edge a b 99;").limit(), 2 + 5 * n * powers[n]);
        }
        AskingFragments full = Check.with(BoundsOfTextsTest.nodes(12) + BoundsOfTextsTest.edges(30));
        Check.is("the most", full.limit(), 60 + 180);
        full.wake(0);
        full.steps(100);
        Check.is("the same on the way", full.limit(), 240);
    }

    static void fragment(AskingFragments x, int n, int... want) {
        for (int w = 0; w < want.length; w++) Check.is("fragment(" + n + ", " + w + ")", x.fragment(n, w), want[w]);
    }

    static void fragmentAnswers() {
        Check.of("23: NoSuchElementException: no such ones");
        AskingFragments x = Check.with(TRIANGLE);
        x.wake(0);
        x.steps(3);
        for (int n : Check.FAR) {
            Check.throwsAndStays(x, "fragment(" + n + ", 0)", () -> x.fragment(n, 0));
            Check.throwsAndStays(x, "fragment(0, " + n + ")", () -> x.fragment(0, n));
        }
        Check.throwsAndStays(x, "fragment(3, 0)", () -> x.fragment(3, 0));
        Check.throwsAndStays(x, "fragment(2, 5)", () -> x.fragment(2, 5));
        Check.is("fragment(2, 4)", x.fragment(2, 4), 1);
        AskingFragments none = new AskingFragments();
        Check.throwsAndStays(none, "fragment(0, 0)", () -> none.fragment(0, 0));
        AskingFragments full = Check.with(BoundsOfTextsTest.nodes(12) + BoundsOfTextsTest.edges(30));
        fragment(full, 11, 11, 1 << 11, 0, 0, -1);
        fragment(full, 0, 0, 1, 0, 0, 0);
        full.wake(0);
        full.steps(250);
        Check.is("all of them", full.fragment(8, 1), (1 << 9) - 1);
        Check.is("their edges", full.fragment(8, 2), full.least(1));
        Check.is("others stay alone", full.fragment(9, 1), 1 << 9);
    }

    static void branchAtBothEnds() {
        Check.of("A FRAGMENT: NODES joined by EDGES that are BRANCH at both ENDS");
        AskingFragments x = Check.with("node a;node b;node c;edge c b 4;edge a b 5;");
        x.wake(2);
        Check.is("one END is BRANCH", x.edge(0, 3) + 10 * x.edge(0, 4), 1);
        fragment(x, 2, 2, 4, 0, 0, 0);
        fragment(x, 1, 1, 2, 0, 0, 0);
        Check.is("three", x.now(7), 3);
        x.take(0);
        Check.is("both ENDS are", x.edge(0, 3) + 10 * x.edge(0, 4), 11);
        fragment(x, 2, 1, 6, 1, 0, 1);
        fragment(x, 1, 1, 6, 1, 0, 1);
        fragment(x, 0, 0, 1, 0, 0, 1);
        Check.is("two", x.now(7), 2);
        x.wake(0);
        Check.is("the other END alone", x.edge(1, 3) + 10 * x.edge(1, 4), 1);
        Check.is("two yet", x.now(7), 2);
        x.steps(250);
        fragment(x, 0, 0, 7, 3, 1, -1);
        Check.is("REJECTED is no BRANCH", Check.with(TRIANGLE).now(7), 3);
        AskingFragments y = Check.with(TRIANGLE);
        y.wake(0);
        y.steps(250);
        Check.is("edge 2 is REJECTED at both", y.edge(2, 3) + 10 * y.edge(2, 4), 22);
        fragment(y, 2, 0, 7, 3, 1, -1);
    }

    static void lightestOut() {
        Check.of("4 the lightest EDGE out of it (NONE)");
        fragment(Check.with("node a;"), 0, 0, 1, 0, 0, -1);
        AskingFragments x = Check.with(ALIKE);
        fragment(x, 0, 0, 1, 0, 0, 0);
        fragment(x, 1, 1, 2, 0, 0, 0);
        fragment(x, 2, 2, 4, 0, 0, 1);
        // An edge between two nodes of it does not lead out, though it is no BRANCH.
        AskingFragments y = Check.with("node a;node b;node c;node d;edge a b 1;edge b c 2;edge a c 3;edge c d 9;");
        y.wake(0);
        Check.runOver(y, 0, 1);
        fragment(y, 1, 0, 7, 3, 1, 3);
        Check.is("edge 2 is no BRANCH", y.edge(2, 3) + y.edge(2, 4) < 2, true);
        fragment(y, 3, 3, 8, 0, 0, 3);
    }

    static void highestLevel() {
        Check.of("3 the highest LEVEL in it");
        AskingFragments x = Check.with("node a;node b;node c;edge a b 1;edge b c 2;");
        x.wake(0);
        x.take(0);
        x.take(1);
        Check.is("none yet", x.fragment(0, 3), 0);
        x.take(1);
        Check.is("a alone has level 1", x.node(0, 1) * 10 + x.node(1, 1), 10);
        Check.is("the highest of all", x.now(5), 1);
        Check.is("that of a", x.fragment(1, 3), 1);
        Check.is("that of a", x.fragment(0, 3), 1);
        Check.is("c's own", x.fragment(2, 3), 0);
    }

    static void least(AskingFragments x, int total, int bits, int parts) {
        Check.is("least(0)", x.least(0), total);
        Check.is("least(1)", x.least(1), bits);
        Check.is("least(2)", x.least(2), parts);
    }

    static void leastAnswers() {
        Check.of("24: NONE for another what");
        AskingFragments x = Check.with(TRIANGLE);
        for (int w : Check.FAR) Check.stays(x, "least(" + w + ")", () -> x.least(w), -1);
        Check.stays(x, "least(3)", () -> x.least(3), -1);
        least(x, 3, 3, 1);
        least(new AskingFragments(), 0, 0, 0);
        least(Check.with("node a;"), 0, 0, 1);
        least(Check.with(BoundsOfTextsTest.nodes(12)), 0, 0, 12);
        least(Check.with("node a;node b;edge a b 99;"), 99, 1, 1);
        StringBuilder star = new StringBuilder(BoundsOfTextsTest.nodes(12));
        for (int i = 1; i < 12; i++) star.append("edge a ").append((char) ('a' + i)).append(" 99;");
        least(Check.with(star.toString()), 1089, (1 << 11) - 1, 1);
        AskingFragments last = Check.with(BoundsOfTextsTest.nodes(12) + BoundsOfTextsTest.edges(30));
        Check.is("weigh", last.weigh(29, 1), 0);
        Check.is("edge 29 is a bit, too", last.least(1) >>> 29, 1);
        Check.is("edge(29, 5)", last.edge(29, 5), 1);
    }

    static void leastOfLikeOnes() {
        Check.of("of the least WEIGHTS (of like ones those that are first in order)");
        AskingFragments x = Check.with(ALIKE);
        least(x, 6, 3, 1);
        for (int e = 0; e < 3; e++) Check.is("edge(" + e + ", 5)", x.edge(e, 5), e < 2 ? 1 : 0);
        x.weigh(2, 2);
        least(x, 5, 5, 1);
        x.weigh(1, 2);
        least(x, 4, 6, 1);
        x.weigh(0, 2);
        least(x, 4, 3, 1);
    }

    static void parts() {
        Check.of("by which all are joined that are joined by EDGES at all; 2 how many parts there are that are not joined");
        AskingFragments x = Check.with(APART);
        least(x, 13, 0b1110, 2);
        x.wake(0);
        x.steps(250);
        least(x, 13, 0b1110, 2);
        Check.is("fragments in the end", x.now(7), 3);
    }

    static void heaviestAnswers() {
        Check.of("25: The heaviest EDGE between two NODES in the LEAST TREE; NONE: they are not joined, alike, no such ones");
        AskingFragments x = Check.with(APART);
        for (int n : Check.FAR) {
            Check.stays(x, "heaviest(" + n + ", 0)", () -> x.heaviest(n, 0), -1);
            Check.stays(x, "heaviest(0, " + n + ")", () -> x.heaviest(0, n), -1);
            Check.stays(x, "heaviest(" + n + ", " + n + ")", () -> x.heaviest(n, n), -1);
        }
        Check.stays(x, "heaviest(4, 5)", () -> x.heaviest(4, 5), -1);
        Check.stays(x, "heaviest(5, 4)", () -> x.heaviest(5, 4), -1);
        Check.stays(x, "heaviest(5, 5)", () -> x.heaviest(5, 5), -1);
        for (int n = 0; n < 5; n++) Check.is("alike", x.heaviest(n, n), -1);
        int[][] want = {{-1, 2, 2, -1, -1}, {2, -1, 1, -1, -1}, {2, 1, -1, -1, -1}, {-1, -1, -1, -1, 3}, {-1, -1, -1, 3, -1}};
        for (int a = 0; a < 5; a++) for (int b = 0; b < 5; b++) Check.is("heaviest(" + a + ", " + b + ")", x.heaviest(a, b), want[a][b]);
        Check.is("no nodes", new AskingFragments().heaviest(0, 0), -1);
        Check.is("no nodes", new AskingFragments().heaviest(0, 1), -1);
    }

    static void heaviestOfLikeOnes() {
        Check.of("EDGES are in order by WEIGHT, of like ones by number: the heaviest is behind the others");
        AskingFragments x = Check.with("node a;node b;node c;node d;edge c d 5;edge a b 5;edge b c 5;");
        Check.is("a to d", x.heaviest(0, 3), 2);
        Check.is("d to a", x.heaviest(3, 0), 2);
        Check.is("a to b", x.heaviest(0, 1), 1);
        Check.is("b to d", x.heaviest(1, 3), 2);
        x.weigh(0, 6);
        Check.is("a to d", x.heaviest(0, 3), 0);
        x.weigh(1, 6);
        Check.is("a to d", x.heaviest(0, 3), 1);
        Check.is("a to c", x.heaviest(0, 2), 1);
    }

    static void slackAnswers() {
        Check.of("26: SLACK of an EDGE; NONE: none, no such one");
        AskingFragments x = Check.with(APART);
        for (int e : Check.FAR) Check.stays(x, "slack(" + e + ")", () -> x.slack(e), -1);
        Check.stays(x, "slack(4)", () -> x.slack(4), -1);
        Check.stays(x, "always in it", () -> x.slack(3), -1);
        Check.is("out of it", x.slack(0), 4);
        Check.is("in it", x.slack(1), 7);
        Check.is("in it", x.slack(2), 3);
        Check.is("no edges", Check.with("node a;").slack(0), -1);
        Check.is("no nodes", new AskingFragments().slack(0), -1);
    }

    static void slackOfLikeOnes() {
        Check.of("by how much its WEIGHT can grow at most so that it still is in it; else by how much its WEIGHT must fall at least to be in it");
        AskingFragments x = Check.with(ALIKE);
        Check.is("0 is first in order: it can't grow, though", x.slack(0), 0);
        Check.is("nor 1", x.slack(1), 0);
        Check.is("2 must fall by one", x.slack(2), 1);
        x.weigh(2, 4);
        Check.is("up to a like weight, its number is lower", x.slack(0), 1);
        Check.is("as this one", x.slack(1), 1);
        Check.is("below them", x.slack(2), 2);
        x.weigh(2, 3);
        x.weigh(0, 4);
        Check.is("out of it, of the lowest number: to a like weight", x.slack(0), 1);
        Check.is("in it, of a higher number: not to a like weight", x.slack(1), 0);
        Check.is("nor this one", x.slack(2), 0);
        x.weigh(0, 5);
        Check.is("to a like weight", x.slack(0), 2);
        Check.is("below it", x.slack(1), 1);
        Check.is("below it", x.slack(2), 1);
    }

    static void slackIsJustEnough() {
        Check.of("SLACK: all others as they are");
        AskingFragments x = Check.with(WIDE);
        for (int e = 0; e < x.count(1); e++) {
            int d = x.slack(e), own = x.edge(e, 2), in = x.edge(e, 5);
            Check.is("all have one", d >= 0, true);
            int last = in == 1 ? own + d : own - d + 1, first = in == 1 ? own + d + 1 : own - d;
            for (int w : new int[] {last, first}) {
                if (w < 1 || w == own) continue;
                Check.is("weigh", x.weigh(e, w), 0);
                Check.is("edge " + e + " of weight " + w, x.edge(e, 5), w == last ? in : 1 - in);
                Check.is("undo", x.undo() >= 0, true);
            }
        }
    }

    static void slackBelowOne() {
        Check.of("(all others as they are; it need not be above 0)");
        AskingFragments x = Check.with("node a;node b;node c;edge a b 1;edge b c 1;edge a c 1;");
        Check.is("to 0", x.slack(2), 1);
        x.weigh(2, 99);
        Check.is("from 99 to 0", x.slack(2), 99);
        Check.is("and up to 99", x.slack(0), 98);
        AskingFragments y = Check.with("node a;node b;node c;edge a b 99;edge b c 99;edge a c 99;");
        Check.is("no bound above, but by others", y.slack(0), 0);
        AskingFragments z = Check.with("node a;node b;node c;edge a b 99;edge b c 1;edge a c 1;");
        Check.is("of a lower number", z.slack(0), 98);
        Check.is("below 99", z.slack(1), 97);
    }

    static void nextAnswers() {
        Check.of("27: The total of the NEXT tree; NONE: there is none");
        String[] trees = {"", "node a;", "node a;node b;", "node a;node b;edge a b 5;", "node a;node b;node c;node d;edge a b 5;edge b c 5;edge b d 5;"};
        for (String tree : trees) {
            AskingFragments x = Check.with(tree);
            Check.stays(x, "next of " + tree, () -> x.next(), -1);
        }
        AskingFragments x = Check.with(TRIANGLE);
        Check.is("next", x.next(), 4);
        Check.is("next once more", x.next(), 4);
        Check.is("all others stay", x.least(0), 3);
        AskingFragments y = Check.with(APART);
        Check.is("of one part", y.next(), 13 - 5 + 9);
        Check.is("the other part can't", y.nextBy(0), 2);
        AskingFragments z = Check.with("node a;node b;node c;edge a b 99;edge b c 99;edge a c 99;");
        Check.is("alike: no more than the least", z.next(), 198);
        AskingFragments w = Check.with("node a;node b;node c;edge a b 1;edge b c 1;edge a c 99;");
        Check.is("much more", w.next(), 100);
        w.wake(0);
        w.steps(250);
        Check.is("the same whatever has been", w.next(), 100);
    }

    static void nextOfLikeOnes() {
        Check.of("the least total; of like ones the EDGE that comes in is of the least number, then the one that goes out is the last in order");
        String[] nets = {
            // of two like ones the last in order goes out
            "node a;node b;node c;edge a b 4;edge b c 4;edge a c 5;",
            // two triangles: in 2 for 1, in 5 for 4, both add 2
            "node a;node b;node c;node d;node e;node f;edge a b 1;edge b c 2;edge a c 4;edge d e 1;edge e f 2;edge d f 4;",
            // the same, the one of the greater number adds less
            "node a;node b;node c;node d;node e;node f;edge a b 1;edge b c 2;edge a c 5;edge d e 1;edge e f 2;edge d f 4;",
            // the edge of the least number comes in, though it is heavier than the other one that could
            "node a;node b;node c;node d;node e;node f;edge a c 8;edge a b 1;edge b c 6;edge d e 1;edge e f 2;edge d f 4;",
            // the one of the greater number adds more
            "node a;node b;node c;node d;node e;node f;edge a b 1;edge b c 2;edge a c 4;edge d e 1;edge e f 2;edge d f 5;",
            // a path of like ones: the last in order goes out
            "node a;node b;node c;node d;edge c d 4;edge a b 4;edge b c 4;edge a d 6;",
            "node a;node b;node c;node d;edge b c 4;edge c d 3;edge a b 4;edge a d 6;"};
        int[][] want = {{9, 1, 2}, {8, 1, 2}, {8, 4, 5}, {12, 2, 0}, {8, 1, 2}, {14, 2, 3}, {13, 2, 3}};
        for (int i = 0; i < nets.length; i++) {
            AskingFragments x = Check.with(nets[i]);
            Check.is("next of " + i, x.next(), want[i][0]);
            Check.is("goes out of " + i, x.nextBy(0), want[i][1]);
            Check.is("comes in of " + i, x.nextBy(1), want[i][2]);
        }
    }

    /** All that the trees and FRAGMENTS tell; next() with what it leaves. */
    static String trees(AskingFragments x) {
        StringBuilder b = new StringBuilder(" limit=").append(x.limit()).append(" starter=").append(x.starter());
        for (int w = 0; w < 3; w++) b.append(" least").append(w).append('=').append(x.least(w));
        for (int n = 0; n < x.count(0); n++) {
            for (int w = 0; w < 5; w++) b.append(" fragment").append(n).append('.').append(w).append('=').append(x.fragment(n, w));
            for (int m = 0; m < x.count(0); m++) b.append(" heaviest=").append(x.heaviest(n, m));
            b.append(" starts=").append(x.starts(n));
        }
        for (int e = 0; e < x.count(1); e++) b.append(" slack=").append(x.slack(e)).append(" cores=").append(x.cores(e, 2, 5));
        return b.append(" next=").append(x.next()).toString();
    }

    static AskingFragments crowded() {
        StringBuilder b = new StringBuilder(BoundsOfTextsTest.nodes(12));
        for (int i = 0, told = 0; i < 12; i++) {
            for (int j = 11; j > i && told < 30; j--, told++) b.append("edge ").append((char) ('a' + j)).append(' ').append((char) ('a' + i)).append(' ').append(1 + (7 * told) % 5).append(';');
        }
        AskingFragments x = Check.with(b.toString());
        for (int n = 0; n < 12; n++) x.wake(n);
        x.steps(250);
        Check.is("all joined", x.now(7), 1);
        trees(x);
        return x;
    }

    static void smallerThanBefore() {
        Check.of("4: the tape is the NET now: nothing of a greater one before it is left; 37: They are as kept");
        String[] nets = {"", "node a;", "node a;node b;", PAIRS, TRIANGLE, ALIKE, APART, WIDE, "node a;node b;node c;node d;edge d c 99;edge b a 99;"};
        for (String net : nets) {
            AskingFragments x = crowded(), y = Check.with(net), z = Check.with(net);
            Check.is("net", Check.net(x, net), y.count(0) + y.count(1));
            Check.is("kept", z.image(1), true);
            Check.is("a greater one", Check.net(z, BoundsOfTextsTest.nodes(12) + BoundsOfTextsTest.edges(30)), 42);
            trees(z);
            Check.is("restored", z.restore(1), true);
            for (int steps = 0; steps < 4; steps++) {
                String world = Check.world(y), trees = trees(y);
                Check.same("as a new object's", Check.world(x), world);
                Check.same("as a new object's", trees(x), trees);
                Check.same("as one's that was not restored", Check.world(z), world);
                Check.same("as one's that was not restored", trees(z), trees);
                for (AskingFragments one : new AskingFragments[] {x, y, z}) {
                    one.wake(steps);
                    one.steps(3 + 5 * steps * steps);
                }
            }
        }
    }

    static void nextByAnswers() {
        Check.of("28: By the latest next() that was not NONE; NONE for another what, or ahead of any");
        AskingFragments x = Check.with("node a;node b;edge a b 1;");
        for (int w : new int[] {0, 1, 2}) Check.is("ahead of any", x.nextBy(w), -1);
        Check.is("none", x.next(), -1);
        for (int w : new int[] {0, 1, 2}) Check.is("ahead of any that was not", x.nextBy(w), -1);
        Check.net(x, TRIANGLE);
        Check.is("ahead of any", x.nextBy(0), -1);
        Check.is("next", x.next(), 4);
        for (int w : Check.FAR) Check.stays(x, "nextBy(" + w + ")", () -> x.nextBy(w), -1);
        Check.stays(x, "nextBy(2)", () -> x.nextBy(2), -1);
        Check.is("out", x.nextBy(0), 1);
        Check.is("in", x.nextBy(1), 2);
        x.weigh(0, 9);
        Check.is("the latest yet", x.nextBy(0) * 10 + x.nextBy(1), 12);
        Check.is("next", x.next(), 11);
        Check.is("another", x.nextBy(0) * 10 + x.nextBy(1), 20);
        x.undo();
        Check.is("the latest, undone or not", x.nextBy(0) * 10 + x.nextBy(1), 20);
        Check.net(x, "node a;node b;edge a b 1;");
        Check.is("none", x.next(), -1);
        Check.is("the latest that was not", x.nextBy(0) * 10 + x.nextBy(1), 20);
    }
}
