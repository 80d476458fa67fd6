/** The bounds of promises 17 to 19, 33, 36 and 37: weights, again, undo, deeds that are drawn, images. */
public final class BoundsOfActsTest {
    static final String PAIR = "node a;node b;edge a b 5;";
    static final String TRIANGLE = "node a;node b;node c;edge a b 1;edge b c 2;edge a c 3;";
    static final String CHAIN = "node a;node b;node c;node d;edge a b 1;edge b c 3;edge c d 2;";

    public static void main(String[] args) {
        weighAnswers();
        weighsOneToNinetyNine();
        weighAheadOfOthers();
        againAnswers();
        againAsNew();
        undoOfEach();
        notUndone();
        eightAreKept();
        nothingToUndo();
        theRuleStays();
        drawnAnswers();
        drawnOneDeed();
        drawnWithoutLetters();
        drawnWraps();
        sixtyDeeds();
        imageAnswers();
        restoreAnswers();
        placesOfTheirOwn();
        keptAsItWas();
        toldStays();
        throwingChangesNothing();
        Check.close();
    }

    static void weighAnswers() {
        Check.of("17: NONE: no such EDGE, w is not 1 to 99");
        AskingFragments x = Check.with(TRIANGLE);
        for (int v : Check.FAR) {
            Check.stays(x, "weigh(" + v + ", 5)", () -> x.weigh(v, 5), -1);
            Check.stays(x, "weigh(0, " + v + ")", () -> x.weigh(0, v), -1);
        }
        Check.stays(x, "weigh(3, 5)", () -> x.weigh(3, 5), -1);
        Check.stays(x, "weigh(0, 0)", () -> x.weigh(0, 0), -1);
        Check.stays(x, "weigh(0, 100)", () -> x.weigh(0, 100), -1);
        Check.is("the last edge", x.weigh(2, 50), 0);
        Check.is("its weight", x.edge(2, 2), 50);
        Check.is("the others stay", x.edge(0, 2) + x.edge(1, 2), 3);
        AskingFragments none = Check.with("node a;");
        Check.stays(none, "no edges", () -> none.weigh(0, 5), -1);
    }

    static void weighsOneToNinetyNine() {
        Check.of("A WEIGHT is w now: 0; 2 it is");
        AskingFragments x = Check.with(PAIR);
        for (int w : new int[] {1, 99, 2, 98, 5}) {
            Check.is("weigh", x.weigh(0, w), 0);
            Check.is("is", x.edge(0, 2), w);
            Check.stays(x, "it is", () -> x.weigh(0, w), 2);
        }
        Check.is("five acts", x.undo(), 4);
    }

    static void weighAheadOfOthers() {
        Check.of("1 some NODE is not ASLEEP");
        AskingFragments x = Check.with("node a;node b;node c;edge a b 5;");
        Check.is("the last node alone, who has no edge", x.wake(2), 0);
        Check.stays(x, "not all asleep", () -> x.weigh(0, 6), 1);
        Check.stays(x, "the same weight", () -> x.weigh(0, 5), 1);
        Check.stays(x, "no such edge", () -> x.weigh(1, 5), -1);
        Check.stays(x, "no such weight", () -> x.weigh(0, 100), -1);
        Check.stays(x, "no such weight", () -> x.weigh(0, 0), -1);
        Check.is("again", x.again(), 0);
        Check.is("all asleep", x.weigh(0, 6), 0);
    }

    static void againAnswers() {
        Check.of("18: All are ASLEEP: 0; 1 they are");
        AskingFragments x = Check.with("node a;node b;node c;edge a b 5;");
        Check.stays(x, "again", () -> x.again(), 1);
        x.wake(2);
        Check.is("one awake", x.again(), 0);
        Check.stays(x, "again", () -> x.again(), 1);
        AskingFragments none = new AskingFragments();
        Check.stays(none, "no nodes", () -> none.again(), 1);
        Check.stays(none, "nothing to undo", () -> none.undo(), -1);
    }

    static void againAsNew() {
        Check.of("All are ASLEEP as in a new NET, WEIGHTS and RULE stay");
        AskingFragments x = Check.with(TRIANGLE), y = Check.with(TRIANGLE);
        for (AskingFragments z : new AskingFragments[] {x, y}) {
            Check.rule(z, "late any from c;new;");
            z.weigh(2, 1);
            z.weigh(0, 9);
        }
        x.wake(2);
        x.rounds(2);
        x.steps(5);
        x.drawn(9, 5);
        Check.is("again", x.again(), 0);
        Check.same("as if nothing had been", Check.world(x), Check.world(y));
        x.wake(1);
        y.wake(1);
        Check.is("and goes on so", x.steps(250), y.steps(250));
        Check.same("to the end", Check.world(x), Check.world(y));
    }

    interface Act { int done(AskingFragments x); }

    static AskingFragments midway() {
        AskingFragments x = Check.with(CHAIN);
        Check.rule(x, "old;");
        x.weigh(1, 4);
        x.wake(3);
        x.rounds(2);
        return x;
    }

    static void undoOfEach() {
        Check.of("19: The latest of wake(), take(), rounds(), steps(), weigh(), again(), drawn() is undone");
        Act[] acts = {x -> x.wake(0), x -> x.take(x.choice()), x -> x.rounds(2), x -> x.steps(3), x -> x.again(), x -> x.drawn(40, 3)};
        for (int i = 0; i < acts.length; i++) {
            AskingFragments x = midway();
            String before = Check.world(x);
            Check.is("act " + i, acts[i].done(x) >= 0, true);
            Check.is("something is another", before.equals(Check.world(x)), false);
            Check.is("undo of act " + i, x.undo(), 3);
            Check.same("as before act " + i, Check.world(x), before);
        }
        AskingFragments y = Check.with(CHAIN);
        String before = Check.world(y);
        y.weigh(2, 9);
        Check.is("undo of weigh", y.undo(), 0);
        Check.same("as before", Check.world(y), before);
        // One LETTER is above 0.
        AskingFragments w = Check.with(CHAIN);
        w.wake(0);
        before = Check.world(w);
        Check.is("a round of one", w.rounds(1), 1);
        Check.is("undo", w.undo(), 1);
        Check.same("as before", Check.world(w), before);
        Check.is("a step", w.steps(1), 1);
        Check.is("undo", w.undo(), 1);
        Check.same("as before", Check.world(w), before);
        // take(): DEFERRED ones are undone, too (1 to 3 are not NONE).
        AskingFragments z = Check.with(TRIANGLE);
        z.wake(2);
        before = Check.world(z);
        Check.is("deferred", z.take(3), 2);
        Check.is("undo", z.undo(), 1);
        Check.same("as before", Check.world(z), before);
    }

    static void notUndone() {
        Check.of("that was not NONE, rounds(), steps() above 0, weigh(), again() that was 0, drawn() above 0 (wake(): 0)");
        AskingFragments x = Check.with("node a;node b;node c;edge a b 5;");
        x.weigh(0, 7);
        Act[] idle = {y -> y.wake(3), y -> y.wake(-1), y -> y.take(0), y -> y.take(2), y -> y.rounds(0), y -> y.rounds(20), y -> y.rounds(21), y -> y.steps(0),
            y -> y.steps(250), y -> y.steps(251), y -> y.weigh(0, 7), y -> y.weigh(0, 100), y -> y.weigh(1, 8), y -> y.again(), y -> y.drawn(0, 1), y -> y.drawn(61, 1),
            y -> y.until(), y -> y.starts(0), y -> y.starter(), y -> y.cores(0, 10, 1), y -> y.next(), y -> y.choice(), y -> y.image(0) ? 1 : 0, y -> y.rule(), y -> y.end(0) ? 1 : 0};
        for (int i = 0; i < idle.length; i++) {
            idle[i].done(x);
            Check.is("undo behind " + i, x.undo(), 0);
            Check.is("the weight", x.edge(0, 2), 5);
            Check.is("weigh", x.weigh(0, 7), 0);
        }
        x.wake(2);
        Act[] awake = {y -> y.wake(2), y -> y.weigh(0, 8), y -> y.rounds(1), y -> y.steps(1), y -> y.take(0)};
        for (int i = 0; i < awake.length; i++) {
            awake[i].done(x);
            Check.is("undo behind " + i, x.undo(), 1);
            Check.is("c sleeps", x.node(2, 0), 0);
            Check.is("wake", x.wake(2), 0);
        }
    }

    static void eightAreKept() {
        Check.of("how many more can be (8 at most are kept); NONE: none is");
        for (int acts = 1; acts <= 20; acts++) {
            AskingFragments x = Check.with(PAIR);
            for (int w = 10; w < 10 + acts; w++) Check.is("weigh", x.weigh(0, w), 0);
            int kept = Math.min(acts, 8);
            for (int left = kept - 1; left >= 0; left--) {
                Check.is("undo", x.undo(), left);
                int back = 10 + acts - kept + left - 1;
                Check.is("weight", x.edge(0, 2), back < 10 ? 5 : back);
            }
            Check.stays(x, "none is", () -> x.undo(), -1);
        }
        AskingFragments y = Check.with(PAIR);
        for (int w = 10; w < 18; w++) y.weigh(0, w);
        Check.is("seven more", y.undo(), 7);
        Check.is("six more", y.undo(), 6);
        for (int w = 30; w < 33; w++) Check.is("weigh", y.weigh(0, w), 0);
        int[] weights = {31, 30, 15, 14, 13, 12, 11, 10};
        for (int i = 0; i < 8; i++) {
            Check.is("undo", y.undo(), 7 - i);
            Check.is("weight", y.edge(0, 2), weights[i]);
        }
        Check.is("the first was not kept", y.undo(), -1);
    }

    static void nothingToUndo() {
        Check.of("NONE: none is");
        AskingFragments x = new AskingFragments();
        Check.stays(x, "undo on a new object", () -> x.undo(), -1);
        Check.net(x, PAIR);
        Check.stays(x, "undo of a new net", () -> x.undo(), -1);
        x.wake(0);
        Check.is("one", x.undo(), 0);
        Check.stays(x, "undo of undo", () -> x.undo(), -1);
        x.wake(0);
        x.image(0);
        Check.is("an image leaves it", x.undo(), 0);
        x.wake(0);
        x.restore(0);
        Check.stays(x, "undo behind restore", () -> x.undo(), -1);
        x.take(0);
        Check.is("what comes behind can be", x.undo(), 0);
        x.take(0);
        Check.is("a restore that is false leaves it", x.restore(1), false);
        Check.is("undo", x.undo(), 0);
    }

    static void theRuleStays() {
        Check.of("is undone (the RULE stays)");
        AskingFragments x = Check.with(TRIANGLE);
        for (int n = 0; n < 3; n++) x.wake(n);
        Check.is("rule", Check.rule(x, "any from c;"), 1);
        Check.is("undo", x.undo(), 2);
        Check.is("lines", x.count(2), 1);
        Check.is("another", Check.rule(x, "old;new;"), 2);
        Check.is("undo", x.undo(), 1);
        Check.is("lines", x.count(2), 2);
        x.wake(2);
        Check.is("none", Check.rule(x, ""), 0);
        Check.is("undo", x.undo(), 1);
        Check.is("lines", x.count(2), 0);
    }

    static void drawnAnswers() {
        Check.of("33: n (1 to 60) DEEDS DRAWN by a seed; NONE: not as told");
        AskingFragments x = Check.with(TRIANGLE);
        x.wake(0);
        for (int n : Check.FAR) Check.stays(x, "drawn(" + n + ", 1)", () -> x.drawn(n, 1), -1);
        Check.stays(x, "drawn(0, 1)", () -> x.drawn(0, 1), -1);
        Check.stays(x, "drawn(61, 1)", () -> x.drawn(61, 1), -1);
        Check.is("one act", x.undo(), 0);
        Check.of("no NODES: nothing is drawn");
        AskingFragments none = new AskingFragments();
        for (int n : new int[] {1, 60}) Check.stays(none, "drawn", () -> none.drawn(n, 1), 0);
        for (int n : new int[] {0, 61}) Check.stays(none, "drawn", () -> none.drawn(n, 1), -1);
        Check.stays(none, "undo", () -> none.undo(), -1);
    }

    static int stir(int x) { return x * 1103515245 + 12345; }

    static int draw(int x, int n) { return (x >>> 8) % n; }

    /** A seed of which the first draws of 8, then of more, are these. */
    static int seedOf(int eighth, int of, int then) {
        for (int seed = 0; seed < 1000000; seed++) {
            int x = stir(seed);
            if (draw(x, 8) == eighth && (of == 0 || draw(stir(x), of) == then)) return seed;
        }
        throw new IllegalStateException("no such seed");
    }

    static void drawnOneDeed() {
        Check.of("a draw of 8: 0: of all NODES: that is WOKEN, if it can be; else, .. of all WAYS with some (by number): its first LETTER is TAKEN");
        for (int n = 0; n < 4; n++) {
            AskingFragments x = Check.with(CHAIN);
            Check.is("wakes", x.drawn(1, seedOf(0, 4, n)), 1);
            Check.is("that one", x.node(n, 0) * 10 + x.now(6), 21);
            int m = n;
            Check.stays(x, "it can't be, and no letter is taken for it", () -> x.drawn(1, seedOf(0, 4, m)), 0);
            Check.is("one act", x.undo(), 0);
        }
        AskingFragments alone = Check.with("node a;");
        Check.stays(alone, "nothing to take", () -> alone.drawn(1, seedOf(3, 0, 0)), 0);
        Check.is("the only node", alone.drawn(1, seedOf(0, 1, 0)), 1);
        Check.is("is awake", alone.now(6), 1);
        int[] busy = {0, 1, 3, 5};
        for (int eighth = 1; eighth < 8; eighth++) {
            for (int pick = 0; pick < 4; pick++) {
                AskingFragments x = Check.with("node a;node b;node c;node d;edge a b 1;edge b c 2;edge c d 3;");
                for (int n = 3; n >= 0; n--) x.wake(n);
                Check.is("takes", x.drawn(1, seedOf(eighth, 4, pick)), 1);
                Check.is("one", x.now(3) + x.now(2), 1);
                Check.is("of that way", x.letter(3 - pick, 5) > 0, true);
                Check.is("its way", x.letter(3 - pick, 1), busy[pick]);
            }
        }
    }

    static void drawnWithoutLetters() {
        Check.of("if there are LETTERS on WAYS: without them nothing is drawn for it");
        AskingFragments x = Check.with(CHAIN);
        for (int eighth = 1; eighth < 8; eighth++) {
            int e = eighth;
            Check.stays(x, "nothing to take", () -> x.drawn(1, seedOf(e, 0, 0)), 0);
        }
        Check.is("no act", x.undo(), -1);
        // Idle deeds draw once: the deed behind them goes by the very next draws.
        for (int seed = 0; seed < 40; seed++) {
            int v = seed, deeds = 0;
            do {
                v = stir(v);
                deeds++;
            } while (draw(v, 8) != 0);
            if (deeds > 60) continue;
            AskingFragments y = Check.with(CHAIN);
            if (deeds > 1) Check.is("idle", y.drawn(deeds - 1, seed), 0);
            Check.is("one", y.drawn(deeds, seed), 1);
            Check.is("the one that is drawn", y.node(draw(stir(v), 4), 0), 2);
        }
    }

    static void drawnWraps() {
        Check.of("x becomes x * 1103515245 + 12345 (an int, wrapping), the draw is (x >>> 8) % n");
        for (int seed : new int[] {0, 1, -1, Integer.MAX_VALUE, Integer.MIN_VALUE, 1 << 24, -256, 255, 123456789}) compareDrawn(seed, 25);
    }

    static void sixtyDeeds() {
        Check.of("n (1 to 60) DEEDS: how many NODES were WOKEN and LETTERS TAKEN");
        for (int n : new int[] {1, 2, 30, 59, 60}) compareDrawn(77, n);
        String wide = BoundsOfTextsTest.nodes(12) + BoundsOfTextsTest.edges(30);
        AskingFragments x = Check.with(wide);
        for (int n = 0; n < 12; n++) x.wake(n);
        int v = 9, taken = 0;
        for (int i = 0; i < 60; i++) {
            v = stir(v);
            if (draw(v, 8) != 0) taken++;
            v = stir(v);
        }
        Check.is("all but those who are awake", x.drawn(60, 9), taken);
        Check.is("taken", x.now(3) + x.now(2), taken);
        Check.is("one act", x.undo(), 7);
        Check.is("none", x.now(3) + x.now(2), 0);
    }

    static void compareDrawn(int seed, int n) {
        AskingFragments x = Check.with(CHAIN), y = Check.with(CHAIN);
        int v = seed, done = 0;
        for (int i = 0; i < n; i++) {
            v = stir(v);
            if (draw(v, 8) == 0) {
                v = stir(v);
                if (y.wake(draw(v, 4)) == 0) done++;
            } else if (y.now(1) > 0) {
                int busy = 0;
                for (int w = 0; w < 6; w++) busy += y.onWay(w) > 0 ? 1 : 0;
                v = stir(v);
                int pick = draw(v, busy);
                for (int w = 0; w < 6; w++) {
                    if (y.onWay(w) > 0 && pick-- == 0) {
                        y.take(w);
                        done++;
                        break;
                    }
                }
            }
        }
        Check.is("drawn(" + n + ", " + seed + ")", x.drawn(n, seed), done);
        Check.same("as by hand", Check.world(x), Check.world(y));
        Check.is("one act, or none", x.undo(), done > 0 ? 0 : -1);
        Check.same("undone", Check.world(x), Check.world(Check.with(CHAIN)));
    }

    static void imageAnswers() {
        Check.of("36: kept in place k (0, 1): true; false: no such one");
        AskingFragments x = midway();
        for (int k : Check.FAR) Check.stays(x, "image(" + k + ")", () -> x.image(k) ? 1 : 0, 0);
        Check.stays(x, "image(2)", () -> x.image(2) ? 1 : 0, 0);
        Check.stays(x, "image(0)", () -> x.image(0) ? 1 : 0, 1);
        Check.stays(x, "image(1)", () -> x.image(1) ? 1 : 0, 1);
        Check.stays(x, "image(1) once more", () -> x.image(1) ? 1 : 0, 1);
        Check.is("undo as before", x.undo(), 2);
    }

    static void restoreAnswers() {
        Check.of("37: true; false: no such one, or nothing is kept there");
        AskingFragments x = midway();
        for (int k : Check.FAR) Check.stays(x, "restore(" + k + ")", () -> x.restore(k) ? 1 : 0, 0);
        Check.stays(x, "restore(2)", () -> x.restore(2) ? 1 : 0, 0);
        Check.stays(x, "nothing in 0", () -> x.restore(0) ? 1 : 0, 0);
        Check.stays(x, "nothing in 1", () -> x.restore(1) ? 1 : 0, 0);
        Check.is("undo as before", x.undo(), 2);
        Check.is("image(1)", x.image(1), true);
        Check.stays(x, "nothing in 0", () -> x.restore(0) ? 1 : 0, 0);
        Check.stays(x, "restore(2)", () -> x.restore(2) ? 1 : 0, 0);
        Check.is("undo as before", x.undo(), 1);
        Check.is("restore(1)", x.restore(1), true);
        Check.is("and once more", x.restore(1), true);
        Check.is("undo", x.undo(), -1);
        AskingFragments empty = new AskingFragments();
        Check.is("an empty one is kept, too", empty.image(0), true);
        Check.net(empty, PAIR);
        Check.is("restore", empty.restore(0), true);
        Check.same("empty", Check.world(empty), Check.world(new AskingFragments()));
    }

    static void placesOfTheirOwn() {
        Check.of("kept in place k (0, 1)");
        AskingFragments x = midway();
        String first = Check.world(x);
        x.image(0);
        Check.is("another net", Check.net(x, "node q;node r;node s;edge r q 8;edge s r 9;"), 5);
        Check.rule(x, "new;high;low;");
        x.weigh(0, 77);
        x.wake(2);
        x.take(3);
        String second = Check.world(x);
        x.image(1);
        Check.is("restore(0)", x.restore(0), true);
        Check.same("the first", Check.world(x), first);
        Check.is("restore(1)", x.restore(1), true);
        Check.same("the second", Check.world(x), second);
        Check.spelled(x, 0, "s>r connect 0");
        Check.is("image(0) over the first", x.image(0), true);
        x.again();
        Check.is("restore(0)", x.restore(0), true);
        Check.same("the second in both", Check.world(x), second);
        Check.is("the names go with the net", Check.rule(x, "any from q to r;"), 1);
    }

    static void keptAsItWas() {
        Check.of("NET, WEIGHTS, RULE and all that is so are kept");
        AskingFragments x = midway(), y = midway();
        String kept = Check.world(x);
        x.image(0);
        x.steps(250);
        x.again();
        x.weigh(0, 55);
        Check.rule(x, "new;new;new;");
        x.wake(0);
        x.restore(0);
        Check.same("as kept", Check.world(x), kept);
        Check.is("it goes on", x.steps(4), 4);
        Check.is("the other", y.steps(4), 4);
        Check.same("as one that was not restored", Check.world(x), Check.world(y));
        x.restore(0);
        Check.same("as kept, though it went on", Check.world(x), kept);
        Check.is("again", x.again(), 0);
        Check.is("the weight that was weighed", x.edge(1, 2), 4);
    }

    static void toldStays() {
        Check.of("(the tape, and what other calls told last, stays; nothing can be undone)");
        AskingFragments x = Check.with(TRIANGLE);
        x.image(0);
        x.wake(0);
        x.spell(0);
        x.next();
        Check.net(x, "node a;node a;");
        Check.feed(x, "node a;");
        String told = Check.told(x);
        Check.is("tape", x.count(3), 7);
        Check.is("restore", x.restore(0), true);
        Check.same("it stays", Check.told(x), told);
        Check.is("nothing can be undone", x.undo(), -1);
        Check.is("the tape as it was", x.net(), 1);
    }

    static void throwingChangesNothing() {
        Check.of("A call that throws changes nothing");
        AskingFragments x = midway();
        x.next();
        x.spell(0);
        Check.feed(x, "node z;");
        Check.throwsAndStays(x, "node", () -> x.node(4, 0));
        Check.throwsAndStays(x, "node", () -> x.node(0, 11));
        Check.throwsAndStays(x, "edge", () -> x.edge(3, 5));
        Check.throwsAndStays(x, "edge", () -> x.edge(0, 6));
        Check.throwsAndStays(x, "letter", () -> x.letter(x.now(0), 0));
        Check.throwsAndStays(x, "letter", () -> x.letter(0, 7));
        Check.throwsAndStays(x, "fragment", () -> x.fragment(4, 0));
        Check.throwsAndStays(x, "fragment", () -> x.fragment(0, 5));
        Check.is("undo stays", x.undo(), 2);
        Check.is("the tape stays", x.net(), 1);
    }
}
