/** Promises 22 to 28: LIMIT, FRAGMENT, LEAST TREE, SLACK and NEXT tree. */
public final class TreesTest {
    static final String TRIANGLE = "node a;node b;node c;edge a b 1;edge b c 2;edge a c 3;";

    public static void main(String[] args) {
        limits();
        fragments();
        trees();
        likeWeights();
        slacks();
        nextTrees();
        Check.close();
    }

    static String nodes(int n) {
        StringBuilder b = new StringBuilder();
        for (int i = 0; i < n; i++) b.append("node ").append((char) ('a' + i)).append(';');
        return b.toString();
    }

    static void limits() {
        int[] powers = {0, 0, 1, 1, 2, 2, 2, 2, 3, 3, 3, 3, 3};
        for (int n = 0; n <= 12; n++) {
            AskingFragments x = Check.with(nodes(n));
            Check.is("limit of " + n, x.limit(), 5 * n * powers[n]);
        }
        Check.is("with edges", Check.with(TRIANGLE).limit(), 6 + 15);
    }

    static void fragment(AskingFragments x, int n, int... want) {
        for (int w = 0; w < want.length; w++) Check.is("fragment(" + n + ", " + w + ")", x.fragment(n, w), want[w]);
    }

    static void fragments() {
        AskingFragments x = Check.with("node a;node b;node c;node d;edge c b 4;edge a d 2;edge b a 4;edge c a 7;");
        Check.is("each alone", x.now(7), 4);
        fragment(x, 2, 2, 4, 0, 0, 0);
        fragment(x, 3, 3, 8, 0, 0, 1);
        x.wake(2);
        // c has its end of edge 0 as a branch, b not: no fragment yet.
        Check.is("one end is not enough", x.now(7), 4);
        Check.is("b wakes over the same edge", x.take(0), 0);
        Check.is("joined", x.now(7), 3);
        fragment(x, 1, 1, 6, 1, 0, 2);
        fragment(x, 2, 1, 6, 1, 0, 2);
        x.take(1);
        x.take(1);
        fragment(x, 1, 1, 6, 1, 1, 2);
        x.steps(250);
        Check.is("one in the end", x.now(7), 1);
        fragment(x, 3, 0, 15, 7, x.now(5), -1);
        AskingFragments y = Check.with(nodes(2));
        fragment(y, 1, 1, 2, 0, 0, -1);
    }

    static void trees() {
        AskingFragments x = Check.with("node a;node b;node c;node d;node e;edge a b 9;edge b c 1;edge c a 5;edge d e 7;");
        Check.is("total", x.least(0), 13);
        Check.is("bits", x.least(1), 0b1110);
        Check.is("parts", x.least(2), 2);
        Check.is("least(3)", x.least(3), -1);
        Check.is("least(-1)", x.least(-1), -1);
        Check.is("not in it", x.edge(0, 5), 0);
        Check.is("in it", x.edge(1, 5), 1);
        Check.is("heaviest", x.heaviest(0, 1), 2);
        Check.is("heaviest", x.heaviest(1, 0), 2);
        Check.is("heaviest", x.heaviest(1, 2), 1);
        Check.is("heaviest", x.heaviest(3, 4), 3);
        Check.is("not joined", x.heaviest(0, 4), -1);
        Check.is("alike", x.heaviest(2, 2), -1);
        for (int n : new int[] {-1, 5, Integer.MAX_VALUE}) {
            Check.is("no such", x.heaviest(0, n), -1);
            Check.is("no such", x.heaviest(n, 0), -1);
        }
        Check.is("weights change it", x.weigh(0, 2), 0);
        Check.is("total", x.least(0), 10);
        Check.is("in it now", x.edge(0, 5), 1);
        Check.is("undo", x.undo(), 0);
        Check.is("total", x.least(0), 13);
    }

    static void likeWeights() {
        AskingFragments x = Check.with("node a;node b;node c;edge a b 3;edge b c 3;edge a c 3;");
        Check.is("those first in order", x.least(1), 3);
        Check.is("the heaviest is the last in order", x.heaviest(0, 2), 1);
        Check.is("slack of 0", x.slack(0), 0);
        Check.is("slack of 1", x.slack(1), 0);
        Check.is("slack of 2", x.slack(2), 1);
        Check.is("next", x.next(), 6);
        Check.is("out: the last in order", x.nextBy(0), 1);
        Check.is("in", x.nextBy(1), 2);
    }

    static void slacks() {
        AskingFragments x = Check.with("node a;node b;node c;node d;edge a c 5;edge a b 3;edge b c 3;edge c d 9;");
        Check.is("in the tree, of a higher number: must stay below", x.slack(1), 1);
        Check.is("the same", x.slack(2), 1);
        Check.is("out of it, of a lower number: may be like", x.slack(0), 2);
        Check.is("always in it", x.slack(3), -1);
        Check.is("no such", x.slack(4), -1);
        Check.is("no such", x.slack(-1), -1);
        AskingFragments y = Check.with("node a;node b;node c;edge a b 3;edge b c 3;edge a c 5;");
        Check.is("of a lower number: may be like", y.slack(0), 2);
        Check.is("out of it, of a higher number: must be below", y.slack(2), 3);
        AskingFragments z = Check.with(TRIANGLE);
        Check.is("below 1", z.weigh(2, 99), 0);
        Check.is("far", z.slack(2), 98);
        Check.is("far", z.slack(0), 98);
        Check.is("it need not be above 0", z.weigh(0, 50), 0);
        Check.is("weigh", z.weigh(1, 1), 0);
        Check.is("weigh", z.weigh(0, 1), 0);
        Check.is("must fall to 0", z.slack(2), 99);
    }

    static void nextTrees() {
        AskingFragments x = Check.with("node a;node b;edge a b 1;");
        Check.is("none", x.next(), -1);
        Check.is("ahead of any", x.nextBy(0), -1);
        Check.is("ahead of any", x.nextBy(1), -1);
        Check.is("net", Check.net(x, "node a;node b;node c;node d;edge a b 4;edge c d 4;edge b c 4;edge a d 6;edge a c 6;"), 9);
        // 12 and 2 more by either of 3 and 4: 3 is the lesser; of 0, 1, 2 that are all between a and d, the last.
        Check.is("next", x.next(), 14);
        Check.is("out", x.nextBy(0), 2);
        Check.is("in", x.nextBy(1), 3);
        Check.is("nextBy(2)", x.nextBy(2), -1);
        Check.is("nextBy(-1)", x.nextBy(-1), -1);
        Check.is("weigh", x.weigh(4, 5), 0);
        Check.is("the least total goes first", x.next(), 13);
        Check.is("out", x.nextBy(0), 2);
        Check.is("in", x.nextBy(1), 4);
        Check.is("net", Check.net(x, "node a;node b;edge a b 1;"), 3);
        Check.is("none now", x.next(), -1);
        Check.is("the latest that was", x.nextBy(1), 4);
        AskingFragments y = Check.with("node a;node b;node c;node d;node e;node f;edge a b 1;edge b c 2;edge a c 3;edge d e 1;edge e f 2;edge d f 3;");
        Check.is("parts stay joined each", y.next(), 7);
        Check.is("out", y.nextBy(0), 1);
        Check.is("in", y.nextBy(1), 2);
    }
}
