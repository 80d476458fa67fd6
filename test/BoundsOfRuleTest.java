/** The bounds of the RULE and the ROUNDS (part 2 of the terms) and of promises 14 to 16. */
public final class BoundsOfRuleTest {
    static final String PAIR = "node a;node b;edge a b 5;";
    static final String CHAIN = "node a;node b;node c;node d;edge a b 1;edge b c 2;edge c d 3;";
    static final String[] KINDS = {"connect", "begin", "test", "accept", "reject", "report", "change"};

    public static void main(String[] args) {
        roundsAnswers();
        roundsTakeWhatIsThere();
        roundsEndAtQuiet();
        twentyRounds();
        stepsAnswers();
        stepsEndAtQuiet();
        choiceAnswers();
        noLines();
        noneMatches();
        oldAndNew();
        lightAndHeavy();
        lowAndHigh();
        lineByLine();
        firstLettersAlone();
        overIsAbove();
        levelIsThat();
        fromAndTo();
        allCondsHold();
        tenLinesOfFourConds();
        eachKind();
        Check.close();
    }

    /** All awake: connects on 0 (a b), 1 (b a), 3 (c b), 5 (d c), sent in the order 5, 3, 1, 0. */
    static AskingFragments four() {
        AskingFragments x = Check.with(CHAIN);
        for (int n = 3; n >= 0; n--) x.wake(n);
        return x;
    }

    static void choice(AskingFragments x, String rule, int want) {
        Check.is("rule " + rule, Check.rule(x, rule) >= 0, true);
        Check.is("choice by " + rule, x.choice(), want);
    }

    static void roundsAnswers() {
        Check.of("14: n (1 to 20) ROUNDS .. NONE: not as told");
        AskingFragments x = four();
        for (int n : Check.FAR) Check.stays(x, "rounds(" + n + ")", () -> x.rounds(n), -1);
        Check.stays(x, "rounds(0)", () -> x.rounds(0), -1);
        Check.stays(x, "rounds(21)", () -> x.rounds(21), -1);
        Check.is("rounds(1)", x.rounds(1), 4);
        Check.is("one", x.now(10), 1);
        AskingFragments quiet = Check.with(CHAIN);
        Check.stays(quiet, "rounds(1) at QUIET", () -> quiet.rounds(1), 0);
        Check.stays(quiet, "rounds(20) at QUIET", () -> quiet.rounds(20), 0);
        Check.stays(quiet, "rounds(0) at QUIET", () -> quiet.rounds(0), -1);
        Check.stays(quiet, "rounds(21) at QUIET", () -> quiet.rounds(21), -1);
        Check.stays(quiet, "undo", () -> quiet.undo(), -1);
    }

    static void roundsTakeWhatIsThere() {
        Check.of("A ROUND: all LETTERS that are on WAYS at its beginning are TAKEN, WAY by WAY");
        AskingFragments x = Check.with(PAIR);
        x.wake(0);
        Check.is("one letter", x.rounds(1), 1);
        Check.is("b's connect and begin, both on one way", x.onWay(1), 2);
        Check.is("both", x.rounds(1), 2);
        // a's begin, sent by b's connect, and a's report, sent by b's begin, came on way 0 meanwhile.
        Check.is("not what came meanwhile", x.onWay(0), 2);
        AskingFragments y = Check.with(PAIR);
        y.wake(0);
        y.wake(1);
        Check.is("way 0, then way 1, not what came there by way 0", y.rounds(1), 2);
        Check.is("a begin on each", y.onWay(0) + 10 * y.onWay(1), 11);
        Check.is("by way 0 first", y.letter(2, 1), 1);
        // A letter that is DEFERRED is TAKEN, too.
        AskingFragments z = Check.with("node a;node b;node c;edge a b 1;edge b c 2;");
        z.wake(2);
        Check.is("one taken", z.rounds(1), 1);
        Check.is("and deferred", z.now(2), 1);
    }

    static void roundsEndAtQuiet() {
        Check.of("as long as some LETTER is on a WAY");
        AskingFragments x = Check.with(PAIR);
        x.wake(0);
        Check.is("six letters in four rounds", x.rounds(20), 6);
        Check.is("no rounds without letters are counted", x.now(10), 4);
        Check.is("none more", x.rounds(1), 0);
        Check.is("four", x.now(10), 4);
        AskingFragments y = Check.with(PAIR);
        y.wake(0);
        Check.is("just four", y.rounds(4), 6);
        Check.is("four", y.now(10), 4);
        AskingFragments z = Check.with(PAIR);
        z.wake(0);
        Check.is("three are not enough", z.rounds(3), 5);
        Check.is("three", z.now(10), 3);
    }

    static void twentyRounds() {
        Check.of("n (1 to 20) ROUNDS: 20 are made, if it takes so many");
        StringBuilder b = new StringBuilder(BoundsOfTextsTest.nodes(12));
        for (int i = 0; i < 11; i++) b.append("edge ").append((char) ('a' + i)).append(' ').append((char) ('b' + i)).append(" ").append(i + 1).append(";");
        AskingFragments x = Check.with(b.toString()), y = Check.with(b.toString());
        x.wake(11);
        y.wake(11);
        int taken = 0;
        for (int i = 0; i < 20; i++) taken += y.rounds(1);
        Check.is("20 at once", x.rounds(20), taken);
        Check.is("20", x.now(10), 20);
        Check.is("letters are left", x.now(1) > 0, true);
        Check.same("the same as one by one", Check.world(x), Check.world(y));
        Check.is("one act", x.undo(), 1);
        Check.is("none was", x.now(10), 0);
    }

    static void stepsAnswers() {
        Check.of("15: n (1 to 250) LETTERS .. NONE: not as told");
        AskingFragments x = four();
        for (int n : Check.FAR) Check.stays(x, "steps(" + n + ")", () -> x.steps(n), -1);
        Check.stays(x, "steps(0)", () -> x.steps(0), -1);
        Check.stays(x, "steps(251)", () -> x.steps(251), -1);
        AskingFragments y = four();
        int all = y.steps(250);
        Check.is("to the end", y.now(1), 0);
        for (int i = 1; i <= all; i++) {
            Check.is("steps(1)", x.steps(1), 1);
            Check.is("taken", x.now(3) + x.now(2), i);
        }
        Check.is("steps(1) at QUIET", x.steps(1), 0);
        Check.same("the same as one by one", Check.world(x), Check.world(y));
        AskingFragments quiet = Check.with(CHAIN);
        for (int n : new int[] {1, 250}) Check.stays(quiet, "steps at QUIET", () -> quiet.steps(n), 0);
        for (int n : new int[] {0, 251}) Check.stays(quiet, "steps at QUIET", () -> quiet.steps(n), -1);
        Check.stays(quiet, "undo", () -> quiet.undo(), -1);
    }

    static void stepsEndAtQuiet() {
        Check.of("as long as there are some, are TAKEN by the RULE: how many");
        for (int n = 1; n <= 8; n++) {
            AskingFragments x = Check.with(PAIR);
            x.wake(0);
            Check.is("steps(" + n + ")", x.steps(n), Math.min(n, 6));
            Check.is("no rounds", x.now(10), 0);
        }
        AskingFragments x = Check.with(PAIR);
        x.wake(1);
        Check.is("249", x.steps(249), 6);
        AskingFragments y = four();
        Check.rule(y, "heavy;");
        int way = y.choice();
        Check.is("the heaviest", way, 5);
        y.steps(1);
        Check.is("by the RULE", y.onWay(5), 0);
    }

    static void choiceAnswers() {
        Check.of("16: the WAY of which the LETTER would be TAKEN by the RULE; NONE: QUIET");
        AskingFragments x = Check.with(CHAIN);
        for (String rule : new String[] {"", "old;", "any;", "late any;", "low;heavy;"}) choice(x, rule, -1);
        Check.is("no nodes", new AskingFragments().choice(), -1);
        x.wake(3);
        Check.stays(x, "one letter", () -> x.choice(), 5);
        x.steps(250);
        Check.is("quiet again", x.choice(), -1);
        AskingFragments y = four();
        for (String rule : new String[] {"", "old;", "new;", "heavy;low;"}) {
            Check.rule(y, rule);
            int way = y.choice();
            int on = y.onWay(way);
            y.steps(1);
            Check.is("taken from there by " + rule, y.onWay(way), on - 1);
            y.undo();
        }
    }

    static void noLines() {
        Check.of("a RULE without LINES: all are left; then that of the least WAY");
        AskingFragments x = four();
        Check.is("the least", x.choice(), 0);
        x.take(0);
        Check.is("way 0 has none", x.choice(), 1);
        AskingFragments y = Check.with(CHAIN);
        y.wake(3);
        y.wake(2);
        Check.is("3 is less than 5", y.choice(), 3);
    }

    static void noneMatches() {
        Check.of("that match a PATTERN ('late': that do not; if none does, all are left)");
        AskingFragments x = four();
        for (String kind : KINDS) choice(x, kind + ";heavy;", 5);
        for (String kind : KINDS) choice(x, "late " + kind + ";heavy;", 5);
        choice(x, "late any;new;", 0);
        choice(x, "any;old;", 5);
        choice(x, "any over 3;old;", 5);
        choice(x, "late any over 3;old;", 5);
        choice(x, "any from b to c;old;", 5);
        choice(x, "late connect level 0;heavy;", 5);
        choice(x, "any from d;any from c;", 5);
        choice(x, "late any from d;late any from c;", 0);
    }

    static void oldAndNew() {
        Check.of("'old': sent first, 'new' last");
        AskingFragments x = four();
        choice(x, "old;", 5);
        choice(x, "new;", 0);
        AskingFragments y = Check.with(CHAIN);
        for (int n : new int[] {1, 3, 0, 2}) y.wake(n);
        choice(y, "old;", 1);
        choice(y, "new;", 3);
    }

    static void lightAndHeavy() {
        Check.of("'light' of the lightest EDGE, 'heavy' of the heaviest: of like WEIGHTS by number");
        AskingFragments x = four();
        choice(x, "light;", 0);
        choice(x, "heavy;", 5);
        choice(x, "light;new;", 0);
        choice(x, "light;old;", 1);
        AskingFragments y = Check.with("node a;node b;node c;node d;node e;node f;edge a b 7;edge c d 7;edge e f 7;");
        for (int n = 0; n < 6; n++) y.wake(n);
        choice(y, "light;", 0);
        choice(y, "heavy;", 4);
        choice(y, "heavy;new;", 5);
        choice(y, "late any from a;late any from b;light;", 2);
        AskingFragments w = Check.with("node a;node b;node c;node d;node e;node f;edge a b 5;edge c d 4;edge e f 4;");
        for (int n = 0; n < 6; n++) w.wake(n);
        choice(w, "heavy;", 0);
        choice(w, "light;", 2);
        w.again();
        w.weigh(0, 4);
        w.weigh(2, 3);
        for (int n = 0; n < 6; n++) w.wake(n);
        choice(w, "light;", 4);
        choice(w, "heavy;", 2);
        AskingFragments z = Check.with("node a;node b;node c;node d;node e;node f;edge a b 98;edge c d 99;edge e f 97;");
        for (int n = 0; n < 6; n++) z.wake(n);
        choice(z, "light;", 4);
        choice(z, "heavy;", 2);
        z.again();
        z.weigh(2, 99);
        for (int n = 0; n < 6; n++) z.wake(n);
        choice(z, "light;", 0);
        choice(z, "heavy;", 4);
    }

    static void lowAndHigh() {
        Check.of("'low' of the least LEVEL, 'high' of the greatest (-1 without one)");
        AskingFragments x = levels();
        choice(x, "low;", 1);
        choice(x, "high;", 2);
        choice(x, "late report;low;", 5);
        choice(x, "late report;high;", 2);
        choice(x, "late begin;low;", 1);
        choice(x, "late begin;high;", 5);
        choice(x, "late begin;late connect;high;", 1);
        // Of one LEVEL all are left.
        AskingFragments y = four();
        choice(y, "low;", 0);
        choice(y, "high;", 0);
        choice(y, "low;old;", 5);
        choice(y, "high;old;", 5);
    }

    /** Three pairs on their own; first letters: a REPORT on way 1, a BEGIN 1 on way 2, a CONNECT 0 on way 5. */
    static AskingFragments levels() {
        AskingFragments x = Check.with("node a;node b;node c;node d;node e;node f;edge a b 1;edge c d 1;edge e f 1;");
        x.wake(0);
        for (int way : new int[] {0, 1, 1, 0, 0}) Check.is("take", x.take(way), 0);
        x.wake(2);
        for (int way : new int[] {2, 3, 3}) Check.is("take", x.take(way), 0);
        x.wake(5);
        int[] on = {0, 1, 2, 0, 0, 1}, kinds = {-1, 5, 1, -1, -1, 0};
        for (int way = 0; way < 6; way++) {
            Check.is("onWay(" + way + ")", x.onWay(way), on[way]);
            if (on[way] > 0) Check.is("the first one's kind", x.letter(firstOn(x, way), 0), kinds[way]);
        }
        return x;
    }

    static void lineByLine() {
        Check.of("LINE by LINE those are left that are, as told, best");
        AskingFragments x = four();
        choice(x, "light;old;", 1);
        choice(x, "old;light;", 5);
        choice(x, "any to b;old;", 3);
        choice(x, "old;any to b;", 5);
        choice(x, "any to b;late any from a;", 3);
        choice(x, "late any from a;any to b;", 3);
        choice(x, "light;any to b;new;", 0);
        choice(x, "late any to b;light;", 1);
        choice(x, "any;".repeat(9) + "old;", 5);
        choice(x, "late any;".repeat(9) + "heavy;", 5);
    }

    static void firstLettersAlone() {
        Check.of("of the first LETTERS of all WAYS");
        AskingFragments x = Check.with("node a;node b;node c;node d;edge a b 1;edge c d 2;");
        x.wake(0);
        x.take(0);
        x.wake(2);
        // On way 1: CONNECT 0 (letter 1), BEGIN 1 (letter 2); on way 2: CONNECT 0 (letter 3).
        Check.is("two", x.onWay(1), 2);
        choice(x, "begin;new;", 2);
        choice(x, "high;new;", 2);
        choice(x, "any level 1;new;", 2);
        choice(x, "old;", 1);
        x.take(1);
        choice(x, "begin;new;", 0);
        choice(x, "begin;old;", 1);
        choice(x, "high;old;", 1);
        choice(x, "any level 1;old;", 1);
        choice(x, "new;", 0);
    }

    static void overIsAbove() {
        Check.of("its EDGE's WEIGHT is above N");
        AskingFragments x = Check.with("node a;node b;node c;node d;edge a b 5;edge c d 99;");
        x.wake(0);
        x.wake(2);
        choice(x, "late any over 4;", 0);
        choice(x, "late any over 5;", 0);
        choice(x, "any over 4;", 0);
        choice(x, "any over 5;", 2);
        choice(x, "any over 98;", 2);
        choice(x, "any over 99;", 0);
        choice(x, "late any over 98;heavy;", 0);
        choice(x, "late any over 99;heavy;", 2);
        choice(x, "late any over 4;heavy;", 2);
        choice(x, "late any over 5;heavy;", 0);
        x.again();
        x.weigh(0, 1);
        x.wake(0);
        x.wake(2);
        choice(x, "late any over 1;heavy;", 0);
    }

    static void levelIsThat() {
        Check.of("it has a LEVEL, and that is N");
        AskingFragments x = Check.with("node a;node b;node c;node d;edge a b 1;edge c d 2;");
        x.wake(0);
        x.take(0);
        x.take(1);
        x.wake(3);
        // BEGIN 1 on 0 and 1, CONNECT 0 on 3.
        choice(x, "any level 0;", 3);
        choice(x, "any level 1;old;", 1);
        choice(x, "any level 2;old;", 1);
        choice(x, "any level 9;heavy;", 3);
        choice(x, "late any level 1;", 3);
        choice(x, "late any level 0;old;", 1);
        x.take(1);
        x.take(0);
        // REPORTS, which have none, on 0 and 1.
        Check.is("a report", x.letter(x.now(0) - 1, 0), 5);
        choice(x, "late any level 0;new;", 1);
        choice(x, "late any level 1;heavy;", 3);
        choice(x, "any level 1;heavy;", 3);
        choice(x, "report level 0;heavy;", 3);
        choice(x, "report level 1;heavy;", 3);
        choice(x, "report;new;", 1);
    }

    static void fromAndTo() {
        Check.of("from, to that NODE");
        AskingFragments x = four();
        int[] from = {0, 1, 3, 5};
        for (int n = 0; n < 4; n++) choice(x, "any from " + (char) ('a' + n) + ";", from[n]);
        choice(x, "any to a;", 1);
        choice(x, "any to b;", 0);
        choice(x, "any to c;", 5);
        choice(x, "any to d;heavy;", 5);
        choice(x, "any from a to b;old;", 0);
        choice(x, "any from b to a;old;", 1);
        choice(x, "any from b to c;old;", 5);
        choice(x, "any from c to b;", 3);
    }

    static void allCondsHold() {
        Check.of("if all CONDS hold");
        AskingFragments x = four();
        choice(x, "any to b from c level 0 over 1;", 3);
        choice(x, "any to b from c level 0 over 2;old;", 5);
        choice(x, "any to b from c level 1 over 1;old;", 5);
        choice(x, "any to b from d level 0 over 1;old;", 5);
        choice(x, "any to c from c level 0 over 1;new;", 0);
        choice(x, "test to b from c level 0 over 1;old;", 5);
        choice(x, "connect to b from c level 0 over 1;", 3);
        choice(x, "late any to b from c level 0 over 1;heavy;", 5);
        choice(x, "late any to b over 1;", 0);
        choice(x, "any over 1 over 2;", 5);
        choice(x, "any level 0 level 1;old;", 5);
        choice(x, "any from a from b;old;", 5);
    }

    static void tenLinesOfFourConds() {
        Check.of("{ LINE ; }, 10 at most .. COND, 4 at most: the last COND of the last LINE holds as the first does");
        String idle = "any to b to b to b to d;";
        String[] last = {"any to b to b to b from c;", "any to b to b to b from a;", "any to b from b over 1 to b;", "any to c to c to c from d;"};
        int[] want = {3, 0, 0, 5};
        for (int i = 0; i < last.length; i++) {
            AskingFragments x = four();
            choice(x, idle.repeat(9) + last[i], want[i]);
            Check.is("ten", x.count(2), 10);
            x.image(0);
            choice(x, "late any from a;", 1);
            x.restore(0);
            Check.is("the same as kept", x.choice(), want[i]);
            choice(x, last[i] + idle.repeat(9), want[i]);
            choice(x, idle.repeat(4) + last[i] + idle.repeat(4) + "late any;", want[i]);
        }
    }

    /** All kinds turn up in this run; by each kind's PATTERN the first way with such a letter is taken, else the first. */
    static void eachKind() {
        Check.of("A PATTERN is matched by a LETTER of that KIND ('any': each)");
        AskingFragments x = Check.with("node a;node b;node c;node d;node e;node f;edge a b 1;edge b c 2;edge c d 3;edge d e 1;edge c a 9;edge e f 2;edge f d 5;edge e c 8;");
        for (int n = 0; n < 6; n++) x.wake(n);
        int[] seen = new int[7];
        for (int step = 0; step < 250 && x.now(1) > 0; step++) {
            for (int kind = 0; kind < 7; kind++) {
                int first = -1, with = -1, without = -1;
                for (int way = 0; way < 2 * x.count(1); way++) {
                    int k = firstOn(x, way);
                    if (k < 0) continue;
                    if (first < 0) first = way;
                    if (with < 0 && x.letter(k, 0) == kind) with = way;
                    if (without < 0 && x.letter(k, 0) != kind) without = way;
                }
                seen[kind] += with >= 0 ? 1 : 0;
                choice(x, KINDS[kind] + ";", with >= 0 ? with : first);
                choice(x, "late " + KINDS[kind] + ";", without >= 0 ? without : first);
            }
            Check.rule(x, step % 2 == 0 ? "new;" : "heavy;");
            x.steps(1);
        }
        for (int kind = 0; kind < 7; kind++) Check.is("kind " + kind + " was there", seen[kind] > 0, true);
    }

    static int firstOn(AskingFragments x, int way) {
        for (int k = 0; k < x.now(0); k++) if (x.letter(k, 1) == way && x.letter(k, 5) == 0) return k;
        return -1;
    }
}
