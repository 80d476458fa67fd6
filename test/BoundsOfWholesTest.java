/** The bounds of promises 29 to 32, 34 and 35: whole runs that leave all as it is, and LETTERS as texts. */
public final class BoundsOfWholesTest {
    static final String PAIR = "node a;node b;edge a b 5;";
    static final String CHAIN = "node a;node b;node c;node d;edge a b 1;edge b c 3;edge c d 2;";
    static final String RING = "node a;node b;node c;node d;node e;edge a b 4;edge b c 4;edge c d 2;edge d e 3;edge e a 4;";
    static final String WIDE = BoundsOfTextsTest.nodes(12) + BoundsOfTextsTest.edges(30);

    public static void main(String[] args) {
        untilAnswers();
        untilGoesByTheRule();
        startsAnswers();
        startsAsInAgain();
        startsOfEachNode();
        startsAreSentNotTaken();
        starterAnswers();
        starterOfLikeOnes();
        coresAnswers();
        coresOfOneSeed();
        coresOfManySeeds();
        coresOfItsFirstNode();
        spellAnswers();
        spelledKinds();
        spelledNumbers();
        longestNames();
        byteAtAnswers();
        latestSpelled();
        Check.close();
    }

    static void untilAnswers() {
        Check.of("29: How many LETTERS would be TAKEN by the RULE from now on till QUIET; all stays as it is");
        AskingFragments none = new AskingFragments();
        Check.stays(none, "until() of none", () -> none.until(), 0);
        AskingFragments x = Check.with(PAIR);
        Check.stays(x, "until() at QUIET", () -> x.until(), 0);
        x.wake(0);
        for (int left = 6; left >= 0; left--) {
            int due = left;
            Check.stays(x, "until()", () -> x.until(), due);
            Check.is("one less", x.steps(1), left > 0 ? 1 : 0);
        }
        AskingFragments y = Check.with(WholeRunsTest.WIDE);
        for (int n = 0; n < 12; n++) y.wake(n);
        int all = y.until();
        Check.is("many", all > 100, true);
        Check.is("all are taken", y.steps(250), all);
        Check.is("quiet", y.until(), 0);
        // A LETTER that is DEFERRED is TAKEN once.
        AskingFragments z = Check.with(CHAIN);
        z.wake(3);
        z.wake(0);
        int due = z.until(), sent = z.now(0);
        z.steps(250);
        Check.is("each once", due, z.now(3));
        Check.is("two were sent before, some were deferred", z.now(4) > 0 && sent == 2, true);
    }

    static void untilGoesByTheRule() {
        Check.of("29: by the RULE");
        for (String rule : new String[] {"", "new;", "heavy;", "late test;high;", "any from c;old;"}) {
            AskingFragments x = Check.with(RING);
            Check.rule(x, rule);
            for (int n = 0; n < 5; n += 2) x.wake(n);
            int due = x.until();
            Check.is("taken by " + rule, x.steps(250), due);
        }
    }

    static void startsAnswers() {
        Check.of("30: NONE: no such one; all stays as it is");
        AskingFragments x = Check.with(CHAIN);
        for (int n : Check.FAR) Check.stays(x, "starts(" + n + ")", () -> x.starts(n), -1);
        Check.stays(x, "starts(4)", () -> x.starts(4), -1);
        x.wake(1);
        x.steps(3);
        for (int n = 0; n < 4; n++) {
            int m = n;
            AskingFragments y = Check.with(CHAIN);
            y.wake(n);
            y.steps(250);
            Check.stays(x, "starts(" + n + ")", () -> x.starts(m), y.now(0));
        }
        Check.is("undo as before", x.undo(), 1);
        Check.is("no nodes", new AskingFragments().starts(0), -1);
        AskingFragments alone = Check.with("node a;node b;node c;edge b c 1;");
        Check.is("without edges", alone.starts(0), 0);
        Check.is("its part alone", alone.starts(2), 6);
    }

    static void startsAsInAgain() {
        Check.of("30: if all were ASLEEP as in again() and this NODE alone were WOKEN, by the RULE");
        AskingFragments x = Check.with(RING);
        Check.rule(x, "heavy;new;");
        x.weigh(2, 9);
        x.weigh(0, 1);
        for (int n = 0; n < 5; n++) x.wake(n);
        x.steps(9);
        for (int n = 0; n < 5; n++) {
            int due = x.starts(n);
            AskingFragments y = Check.with(RING);
            Check.rule(y, "heavy;new;");
            y.weigh(2, 9);
            y.weigh(0, 1);
            y.wake(n);
            y.steps(250);
            Check.is("starts(" + n + ")", due, y.now(0));
        }
    }

    static void startsOfEachNode() {
        Check.of("30, 31: another number for another NODE, whoever is awake");
        AskingFragments x = Check.with("node a;node b;node c;node d;edge a b 2;edge b c 2;edge b d 1;");
        int[] due = {16, 16, 14, 16};
        for (int n = 0; n < 4; n++) {
            for (int m = 0; m < 4; m++) Check.is("starts(" + m + ")", x.starts(m), due[m]);
            Check.is("starter()", x.starter(), 2);
            x.wake(n);
        }
        Check.is("with all awake", x.until() + x.now(0) - x.now(1), 14);
        x.steps(250);
        for (int m = 0; m < 4; m++) Check.is("starts(" + m + ") in the end", x.starts(m), due[m]);
        Check.is("starter() in the end", x.starter(), 2);
    }

    static void startsAreSentNotTaken() {
        Check.of("30: How many LETTERS would be sent till QUIET");
        AskingFragments x = Check.with(PAIR);
        Check.is("the one of waking, too", x.starts(0), 6);
        x.wake(0);
        Check.is("as those that are taken here", x.until(), 6);
        x.steps(250);
        Check.is("those sent before do not count", x.starts(1), 6);
    }

    static void starterAnswers() {
        Check.of("31: The NODE of which starts() is the least; NONE: there are none");
        AskingFragments none = new AskingFragments();
        Check.stays(none, "starter() of none", () -> none.starter(), -1);
        for (String net : new String[] {CHAIN, RING, WIDE, "node a;", "node a;node b;edge b a 1;node c;"}) {
            for (String rule : new String[] {"", "new;", "heavy;", "late test;"}) {
                AskingFragments x = Check.with(net);
                Check.rule(x, rule);
                int best = 0;
                for (int n = 1; n < x.count(0); n++) if (x.starts(n) < x.starts(best)) best = n;
                int due = best;
                Check.stays(x, "starter()", () -> x.starter(), due);
                x.wake(x.count(0) - 1);
                Check.stays(x, "starter() midway", () -> x.starter(), due);
            }
        }
        AskingFragments last = Check.with("node a;node b;edge a b 1;node c;");
        Check.is("the last, who sends none", last.starter(), 2);
    }

    static void starterOfLikeOnes() {
        Check.of("31: (of like ones the first)");
        Check.is("both send six", Check.with(PAIR).starter(), 0);
        Check.is("all send none", Check.with("node a;node b;node c;").starter(), 0);
        Check.is("b and c send none", Check.with("node a;node b;node c;node d;edge a d 1;").starter(), 1);
    }

    static void coresAnswers() {
        Check.of("32: Of n (1 to 10) seeds; NONE: no such ones; all stays as it is");
        AskingFragments x = Check.with(RING);
        x.wake(0);
        x.steps(3);
        for (int v : Check.FAR) {
            Check.stays(x, "cores(" + v + ", 1, 1)", () -> x.cores(v, 1, 1), -1);
            Check.stays(x, "cores(0, " + v + ", 1)", () -> x.cores(0, v, 1), -1);
        }
        Check.stays(x, "cores(5, 1, 1)", () -> x.cores(5, 1, 1), -1);
        Check.stays(x, "cores(0, 0, 1)", () -> x.cores(0, 0, 1), -1);
        Check.stays(x, "cores(0, 11, 1)", () -> x.cores(0, 11, 1), -1);
        Check.stays(x, "cores(5, 0, 1)", () -> x.cores(5, 0, 1), -1);
        int[] due = new int[5];
        for (int i = 0; i < 10; i++) due[coreOf(RING, 1 + i)]++;
        for (int e = 0; e < 5; e++) {
            int f = e;
            Check.stays(x, "cores(" + e + ", 10, 1)", () -> x.cores(f, 10, 1), due[e]);
        }
        Check.is("undo as before", x.undo(), 1);
        Check.is("no edges", Check.with("node a;").cores(0, 1, 1), -1);
    }

    static int stir(int x) { return x * 1103515245 + 12345; }

    /** By the face alone: which edge is the NAME of a in the end. */
    static int coreOf(String net, int seed) {
        AskingFragments x = Check.with(net);
        for (int n = 0; n < x.count(0); n++) x.wake(n);
        int v = seed;
        while (x.now(1) > 0) {
            int busy = 0;
            for (int w = 0; w < 2 * x.count(1); w++) busy += x.onWay(w) > 0 ? 1 : 0;
            v = stir(v);
            int pick = (v >>> 8) % busy;
            for (int w = 0; w < 2 * x.count(1); w++) {
                if (x.onWay(w) > 0 && pick-- == 0) {
                    x.take(w);
                    break;
                }
            }
        }
        return x.node(0, 2);
    }

    static void coresOfOneSeed() {
        Check.of("32: all are WOKEN by number, then, as long as there are LETTERS on WAYS, of all WAYS with some (by number) one is drawn");
        AskingFragments x = Check.with(RING);
        for (int seed : new int[] {0, -1, Integer.MAX_VALUE, Integer.MIN_VALUE, 1, 2, 3, 4, 5, 6, 7, 8}) {
            int core = coreOf(RING, seed);
            for (int e = 0; e < 5; e++) Check.is("cores(" + e + ", 1, " + seed + ")", x.cores(e, 1, seed), e == core ? 1 : 0);
        }
    }

    static void coresOfManySeeds() {
        Check.of("32: n (1 to 10) seeds x, x and 1, ..");
        AskingFragments x = Check.with(RING);
        for (int first : new int[] {5, -3, Integer.MAX_VALUE - 4, Integer.MIN_VALUE}) {
            for (int e = 0; e < 5; e++) {
                int sum = 0;
                for (int n = 1; n <= 10; n++) {
                    sum += x.cores(e, 1, first + n - 1);
                    Check.is("cores(" + e + ", " + n + ", " + first + ")", x.cores(e, n, first), sum);
                }
            }
        }
    }

    static void coresOfItsFirstNode() {
        Check.of("32: by how many an EDGE is the NAME of its first NODE in the end; as in again()");
        AskingFragments x = Check.with("node a;node b;node c;node d;edge a b 1;edge c d 1;");
        Check.is("each part has its own", x.cores(0, 10, 1) + x.cores(1, 10, 1), 20);
        AskingFragments y = Check.with(CHAIN);
        Check.is("b c, the heaviest, joins the two pairs", y.cores(1, 10, 1), 10);
        y.weigh(1, 1);
        y.wake(0);
        y.steps(250);
        Check.is("b c alike is absorbed, or is the core", y.cores(0, 10, 1) + y.cores(1, 10, 1) + y.cores(2, 10, 1), 10);
        Check.rule(y, "new;heavy;");
        int without = y.cores(2, 10, 1);
        Check.rule(y, "");
        Check.is("the RULE does not matter", y.cores(2, 10, 1), without);
    }

    static void spellAnswers() {
        Check.of("34: A LETTER as a text: how many bytes; NONE: no such one");
        AskingFragments x = Check.with(PAIR);
        Check.stays(x, "spell(0) without letters", () -> x.spell(0), -1);
        x.wake(0);
        for (int k : Check.FAR) Check.stays(x, "spell(" + k + ")", () -> x.spell(k), -1);
        Check.stays(x, "spell(1)", () -> x.spell(1), -1);
        Check.spelled(x, 0, "a>b connect 0");
        String before = Check.world(x);
        Check.is("spell", x.spell(0), 13);
        Check.same("all stays", Check.world(x), before);
        x.steps(250);
        Check.spelled(x, 4, "b>a report -");
        Check.spelled(x, 5, "a>b report -");
        Check.is("spell(6)", x.spell(6), -1);
        x.again();
        Check.is("no letters again", x.spell(0), -1);
    }

    static void spelledKinds() {
        Check.of("34: its KIND as a RULE tells it, a blank and a number for each it has: LEVEL, NAME or EDGE told (- for none), STATE");
        AskingFragments x = Check.with("node a;node b;node c;node d;node e;edge a b 1;edge b c 2;edge c d 3;edge d e 1;edge c a 9;");
        x.wake(3);
        Check.runOver(x, 3);
        x.wake(0);
        x.wake(2);
        x.steps(250);
        boolean[] seen = new boolean[7];
        boolean some = false, none = false;
        String[] kinds = {"connect", "begin", "test", "accept", "reject", "report", "change"};
        for (int k = 0; k < x.now(0); k++) {
            int kind = x.letter(k, 0), way = x.letter(k, 1);
            String text = (char) ('a' + x.edge(way / 2, way % 2)) + ">" + (char) ('a' + x.edge(way / 2, 1 - way % 2)) + " " + kinds[kind];
            if (kind < 3) text += " " + x.letter(k, 2);
            if (kind == 1 || kind == 2) text += " " + x.letter(k, 3);
            if (kind == 5) text += x.letter(k, 3) < 0 ? " -" : " " + x.letter(k, 3);
            if (kind == 1) text += " " + x.letter(k, 4);
            Check.spelled(x, k, text);
            seen[kind] = true;
            some |= kind == 5 && x.letter(k, 3) >= 0;
            none |= kind == 5 && x.letter(k, 3) < 0;
        }
        for (int kind = 0; kind < 7; kind++) Check.is("kind " + kind + " was there", seen[kind], true);
        Check.is("a REPORT of an EDGE, one of none", some && none, true);
    }

    static void spelledNumbers() {
        Check.of("34: a number for each: of one digit, of two");
        for (int core : new int[] {0, 9, 10, 19, 20, 29}) {
            AskingFragments x = Check.with(WIDE);
            Check.is("weigh", x.weigh(core, 1), 0);
            x.wake(x.edge(core, 0));
            x.take(2 * core);
            char a = (char) ('a' + x.edge(core, 0)), b = (char) ('a' + x.edge(core, 1));
            Check.spelled(x, 0, a + ">" + b + " connect 0");
            Check.spelled(x, 2, b + ">" + a + " begin 1 " + core + " 1");
            x.take(2 * core + 1);
            x.take(2 * core + 1);
            Check.is("a test", x.letter(4, 0), 2);
            int way = x.letter(4, 1);
            Check.spelled(x, 4, a + ">" + (char) ('a' + x.edge(way / 2, 1 - way % 2)) + " test 1 " + core);
        }
        // A REPORT of an EDGE of two digits.
        AskingFragments y = Check.with(WholeRunsTest.WIDE);
        for (int n = 0; n < 12; n++) y.wake(n);
        y.steps(250);
        boolean two = false;
        for (int k = 0; k < y.now(0); k++) {
            if (y.letter(k, 0) != 5 || y.letter(k, 3) < 10) continue;
            two = true;
            Check.is("spell", y.spell(k), 13);
            Check.is("tens", y.byteAt(11), '0' + y.letter(k, 3) / 10);
            Check.is("ones", y.byteAt(12), '0' + y.letter(k, 3) % 10);
        }
        Check.is("there was one", two, true);
    }

    static void longestNames() {
        Check.of("34: the NAME of the NODE it is from, >, the NAME of the one it is to");
        AskingFragments x = Check.with("node abcdefg;node z;node gfedcba;edge abcdefg gfedcba 4;edge z abcdefg 9;");
        x.wake(2);
        x.steps(250);
        Check.spelled(x, 0, "gfedcba>abcdefg connect 0");
        Check.spelled(x, 2, "abcdefg>gfedcba begin 1 0 1");
        int last = x.now(0) - 1;
        Check.is("more than a few", last > 8, true);
        boolean short1 = false, short2 = false;
        for (int k = 0; k <= last; k++) {
            if (x.letter(k, 1) == 2 && x.letter(k, 0) == 0) { Check.spelled(x, k, "z>abcdefg connect 0"); short1 = true; }
            if (x.letter(k, 1) == 3 && x.letter(k, 0) == 2) { Check.spelled(x, k, "abcdefg>z test 1 0"); short2 = true; }
        }
        Check.is("those to and from z", short1 && short2, true);
    }

    static void byteAtAnswers() {
        Check.of("35: Byte i of the latest spell() that was not NONE; NONE: none such");
        AskingFragments x = Check.with(PAIR);
        for (int i : new int[] {0, 1, 63, 64}) Check.is("ahead of any", x.byteAt(i), -1);
        for (int i : Check.FAR) Check.is("ahead of any", x.byteAt(i), -1);
        Check.is("none", x.spell(0), -1);
        Check.is("ahead of any that was not", x.byteAt(0), -1);
        x.wake(0);
        Check.is("spell", x.spell(0), 13);
        String text = "a>b connect 0";
        for (int i = 0; i < 13; i++) Check.is("byteAt(" + i + ")", x.byteAt(i), text.charAt(i));
        for (int i : Check.FAR) Check.stays(x, "byteAt(" + i + ")", () -> x.byteAt(i), -1);
        for (int i : new int[] {13, 14, 63, 64}) Check.stays(x, "byteAt(" + i + ")", () -> x.byteAt(i), -1);
    }

    static void latestSpelled() {
        Check.of("35: the latest spell() that was not NONE");
        AskingFragments x = Check.with("node long;node b;edge long b 5;");
        x.wake(1);
        x.wake(0);
        Check.is("spell(1)", x.spell(1), 16);
        Check.is("its first byte", x.byteAt(0), 'l');
        Check.is("spell(2)", x.spell(2), -1);
        Check.is("the latest that was not", x.byteAt(0), 'l');
        Check.is("its last byte", x.byteAt(15), '0');
        Check.is("spell(0)", x.spell(0), 16);
        Check.is("another", x.byteAt(0), 'b');
        x.steps(250);
        Check.is("a shorter one", x.spell(x.now(0) - 1), 15);
        Check.is("nothing behind it", x.byteAt(15), -1);
        Check.is("its last", x.byteAt(14), '-');
        x.again();
        Check.is("the latest, though there are no letters", x.byteAt(14), '-');
        x.undo();
        Check.net(x, "node z;");
        Check.is("though there is another net", x.byteAt(14), '-');
    }
}
