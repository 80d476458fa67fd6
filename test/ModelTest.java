import java.util.NoSuchElementException;
import java.util.Random;

/** Drawn runs of calls: the class and the model answer alike. The seeds are fixed. */
public final class ModelTest {
    static int wrong = 0;
    static int mostLetters = 0;
    static int calls = 0;
    static final int THROWN = Integer.MIN_VALUE;

    AskingFragments it = new AskingFragments();
    Model model = new Model();
    final Random random;
    final int run;
    final StringBuilder log = new StringBuilder();
    int called = 0;

    ModelTest(int run) {
        this.run = run;
        random = new Random(run);
    }

    interface Call { int answer(); }

    static int of(Call c) {
        try {
            return c.answer();
        } catch (NoSuchElementException e) {
            return THROWN;
        }
    }

    void same(String what, Call a, Call b) {
        called++;
        calls++;
        int got = of(a), want = of(b);
        log.append(what).append(" = ").append(want).append('\n');
        if (got != want) {
            wrong++;
            if (wrong < 5) System.out.println("run " + run + " call " + called + ": " + what + " answered " + got + ", the model " + want + "\n" + tail());
        }
    }

    String tail() {
        String s = log.toString();
        return s.substring(Math.max(0, s.length() - 1500));
    }

    int r(int n) { return random.nextInt(n); }

    void tell(String text) {
        byte[] bytes = text.getBytes(java.nio.charset.StandardCharsets.ISO_8859_1);
        it.end(0);
        model.end(0);
        int used = Math.min(bytes.length, 940);
        for (int i = 0; i < used; i += 20) {
            int[] v = new int[5];
            for (int j = 0; j < 20; j++) v[j / 4] |= (i + j < used ? bytes[i + j] & 255 : 0) << (24 - j % 4 * 8);
            same("feed", () -> it.feed(v[0], v[1], v[2], v[3], v[4]), () -> model.feed(v));
        }
        same("end", () -> it.end(used) ? 1 : 0, () -> model.end(used) ? 1 : 0);
    }

    String name(int n) { return new String[] {"a", "bb", "c", "dora", "e", "f", "gg", "h", "ione", "jjjjjjj", "k", "l"}[n]; }

    String netText() {
        int n = r(10) == 0 ? r(4) : 2 + r(11);
        int edges = r(4) == 0 ? r(31) : Math.min(30, n + r(2 * n + 1));
        int spread = r(3) == 0 ? 3 : r(2) == 0 ? 20 : 99;
        StringBuilder b = new StringBuilder();
        String gap = r(6) == 0 ? "\n" : r(6) == 0 ? "  " : " ";
        for (int i = 0; i < n; i++) b.append("node").append(gap).append(name(i)).append(r(4) == 0 ? gap : "").append(";").append(r(4) == 0 ? gap : "");
        boolean[][] had = new boolean[12][12];
        for (int i = 0; i < edges && n > 1; i++) {
            int a = r(n), c = r(n);
            if (a == c || had[a][c]) continue;
            had[a][c] = true;
            had[c][a] = true;
            b.append("edge ").append(name(a)).append(gap).append(name(c)).append(" ").append(1 + r(spread)).append(";");
        }
        return b.toString();
    }

    String ruleText() {
        StringBuilder b = new StringBuilder();
        int lines = r(5) == 0 ? r(12) : r(4);
        for (int i = 0; i < lines; i++) {
            if (r(2) == 0) {
                b.append(Model.SORTS.get(r(6))).append(";");
                continue;
            }
            if (r(3) == 0) b.append("late ");
            int k = r(8);
            b.append(k == 7 ? "any" : Model.KIND[k]);
            int conds = r(10) == 0 ? r(6) : r(3);
            for (int c = 0; c < conds; c++) {
                switch (r(4)) {
                    case 0: b.append(" from ").append(name(r(12))); break;
                    case 1: b.append(" to ").append(name(r(12))); break;
                    case 2: b.append(" level ").append(r(12) == 0 ? r(100) : r(4)); break;
                    default: b.append(" over ").append(r(100)); break;
                }
            }
            b.append(";");
        }
        return b.toString();
    }

    String spoil(String text, int most) {
        StringBuilder b = new StringBuilder(text);
        String[] bits = {";", " ", "node", "edge", "a", "zz", "0", "00", "7", "07", "100", "abcdefgh", "a1", "1a", "late", "from", "level", "over 5", "\t", "\u00e9", "\u0000", "A", "node q;", "old;"};
        int times = 1 + r(3);
        for (int i = 0; i < times; i++) {
            int p = r(b.length() + 1);
            switch (r(4)) {
                case 0: b.insert(p, bits[r(bits.length)]); break;
                case 1: b.insert(p, " " + bits[r(bits.length)] + " "); break;
                case 2: if (p < b.length()) b.deleteCharAt(p); break;
                default:
                    int aim = most - 8 + r(16), from = b.length();
                    while (b.length() < aim) b.insert(r(3) == 0 || from == 0 ? b.length() : r(from), ' ');
                    if (r(2) == 0) b.append(bits[r(bits.length)]);
                    break;
            }
        }
        return b.toString();
    }

    void net() {
        String text = netText();
        if (r(8) == 0) text = text + netText();
        if (r(2) == 0 && run % 3 == 0) text = spoil(text, 900);
        tell(text);
        log.append(text).append('\n');
        same("net", it::net, model::net);
        faults();
    }

    void rule() {
        String text = ruleText();
        if (r(2) == 0 && run % 3 == 0) text = spoil(text, 300);
        tell(text);
        log.append(text).append('\n');
        same("rule", it::rule, model::rule);
        faults();
    }

    void faults() {
        same("fault 0", () -> it.fault(0), () -> model.fault(0));
        same("fault 1", () -> it.fault(1), () -> model.fault(1));
    }

    int some(int n) {
        switch (r(60)) {
            case 0: return random.nextInt();
            case 1: return r(2) == 0 ? Integer.MAX_VALUE - r(3) : Integer.MIN_VALUE + r(3);
            case 2: case 3: case 4: case 5: return r(40) - 5;
            default: return n > 0 ? r(n) : 0;
        }
    }

    void deed() {
        int nodes = model.world.names.size(), edges = model.world.edges.size();
        int n = some(nodes), e = some(edges), way = some(2 * edges), k = some(model.world.letters.size()), w = some(11);
        int seed = random.nextInt();
        if (!model.world.busy().isEmpty() && r(4) > 0) way = model.world.busy().get(r(model.world.busy().size()));
        int g = way;
        switch (r(50)) {
            case 0: case 1: case 2: case 3: same("wake " + n, () -> it.wake(n), () -> model.wake(n)); break;
            case 4: case 5: case 6: case 7: case 8: case 9: case 10: case 11: case 12:
                same("take " + g, () -> it.take(g), () -> model.take(g)); break;
            case 13: { int c = some(3); same("rounds " + c, () -> it.rounds(c), () -> model.rounds(c)); break; }
            case 14: case 15: { int c = r(5) == 0 ? 250 : some(20); same("steps " + c, () -> it.steps(c), () -> model.steps(c)); break; }
            case 16: { int c = 1 + r(20); same("drawn " + c, () -> it.drawn(c, seed), () -> model.drawn(c, seed)); break; }
            case 17: { int c = some(60); same("drawn " + c, () -> it.drawn(c, seed), () -> model.drawn(c, seed)); break; }
            case 18: { int v = r(8) == 0 ? r(104) - 2 : 1 + r(20); same("weigh " + e + " " + v, () -> it.weigh(e, v), () -> model.weigh(e, v)); break; }
            case 19: if (r(4) == 0) { same("again", it::again, model::again); weighs(); } break;
            case 20: case 21: case 22: same("undo", it::undo, model::undo); break;
            case 23: { int c = r(3); same("image", () -> it.image(c) ? 1 : 0, () -> model.image(c) ? 1 : 0); break; }
            case 24: if (r(4) == 0) { int c = r(4) - 1; same("restore", () -> it.restore(c) ? 1 : 0, () -> model.restore(c) ? 1 : 0); } break;
            case 25: if (r(6) == 0) net(); break;
            case 26: if (r(2) == 0) rule(); break;
            case 27: { int c = some(n); same("heaviest", () -> it.heaviest(n, c), () -> model.heaviest(n, c)); break; }
            case 28: same("slack " + e, () -> it.slack(e), () -> model.slack(e)); break;
            case 29: same("next", it::next, model::next);
                same("nextBy 0", () -> it.nextBy(0), () -> model.nextBy(0));
                same("nextBy 1", () -> it.nextBy(1), () -> model.nextBy(1)); break;
            case 30: same("until", it::until, model::until); break;
            case 31: same("starts " + n, () -> it.starts(n), () -> model.starts(n)); break;
            case 32: if (r(3) == 0) same("starter", it::starter, model::starter); break;
            case 33: { int c = r(3) == 0 ? some(10) : 1 + r(3); same("cores", () -> it.cores(e, c, seed), () -> model.cores(e, c, seed)); break; }
            case 34: case 35: spelled(k); break;
            case 36: { int c = r(5) - 1; same("count " + c, () -> it.count(c), () -> model.count(c)); break; }
            case 37: same("limit", it::limit, model::limit); break;
            case 38: { int c = r(5) - 1; same("least " + c, () -> it.least(c), () -> model.least(c)); break; }
            case 39: { int c = r(7) - 1; same("fragment " + n + " " + c, () -> it.fragment(n, c), () -> model.fragment(n, c)); break; }
            case 40: same("choice", it::choice, model::choice); break;
            case 41: { int c = r(9) - 1; same("sent " + c, () -> it.sent(c), () -> model.sent(c)); break; }
            case 42: case 43: same("now " + w, () -> it.now(w), () -> model.now(w)); break;
            case 44: { int c = r(3) - 1, d = r(3); same("waits", () -> it.waits(n, d, c), () -> model.waits(n, d, c)); break; }
            case 45: same("onWay", () -> it.onWay(g), () -> model.onWay(g)); break;
            case 46: same("node " + n + " " + w, () -> it.node(n, w), () -> model.node(n, w)); break;
            case 47: { int c = r(8) - 1; same("edge", () -> it.edge(e, c), () -> model.edge(e, c)); break; }
            case 48: { int c = r(9) - 1; same("letter", () -> it.letter(k, c), () -> model.letter(k, c)); break; }
            default: same("nextBy", () -> it.nextBy(w), () -> model.nextBy(w)); break;
        }
        mostLetters = Math.max(mostLetters, model.world.letters.size() - model.limit());
    }

    void weighs() {
        for (int i = 0; i < 3 && !model.world.edges.isEmpty(); i++) {
            int e = r(model.world.edges.size()), v = 1 + r(30);
            same("weigh", () -> it.weigh(e, v), () -> model.weigh(e, v));
        }
    }

    void spelled(int k) {
        same("spell " + k, () -> it.spell(k), () -> model.spell(k));
        for (int i = -1; i <= model.spelled.length(); i++) {
            int p = i;
            if (r(3) == 0) same("byteAt " + i, () -> it.byteAt(p), () -> model.byteAt(p));
        }
    }

    /** All that can be told, behind the run: reading changes nothing, so that 512 calls are no bound here. */
    void all() {
        for (int n = 0; n < model.world.names.size(); n++) {
            int m = n;
            for (int w = 0; w < 11; w++) { int v = w; same("node " + n + " " + w, () -> it.node(m, v), () -> model.node(m, v)); }
            for (int w = 0; w < 5; w++) { int v = w; same("fragment " + n + " " + w, () -> it.fragment(m, v), () -> model.fragment(m, v)); }
            for (int w = 0; w < 3; w++) { int v = w; same("waits", () -> it.waits(m, v, 0), () -> model.waits(m, v, 0)); same("waits", () -> it.waits(m, v, 1), () -> model.waits(m, v, 1)); }
        }
        for (int e = 0; e < model.world.edges.size(); e++) {
            int m = e;
            for (int w = 0; w < 6; w++) { int v = w; same("edge " + e + " " + w, () -> it.edge(m, v), () -> model.edge(m, v)); }
            same("slack " + e, () -> it.slack(m), () -> model.slack(m));
            same("onWay", () -> it.onWay(2 * m), () -> model.onWay(2 * m));
            same("onWay", () -> it.onWay(2 * m + 1), () -> model.onWay(2 * m + 1));
        }
        for (int k = 0; k < model.world.letters.size(); k++) {
            int m = k;
            for (int w = 0; w < 7; w++) { int v = w; same("letter " + k + " " + w, () -> it.letter(m, v), () -> model.letter(m, v)); }
        }
        for (int w = 0; w < 12; w++) { int v = w; same("now " + w, () -> it.now(v), () -> model.now(v)); }
        for (int w = 0; w < 8; w++) { int v = w; same("sent " + w, () -> it.sent(v), () -> model.sent(v)); }
        for (int w = 0; w < 4; w++) { int v = w; same("least " + w, () -> it.least(v), () -> model.least(v)); }
        for (int w = 0; w < 4; w++) { int v = w; same("count " + w, () -> it.count(v), () -> model.count(v)); }
    }

    void go() {
        net();
        if (r(2) == 0) rule();
        while (called < 440) deed();
        all();
    }

    public static void main(String[] args) {
        int runs = args.length > 0 ? Integer.parseInt(args[0]) : 400;
        for (int run = 0; run < runs && wrong < 5; run++) new ModelTest(run).go();
        if (mostLetters > 0) { wrong++; System.out.println("more letters than the limit: " + mostLetters); }
        System.out.println(calls + " calls compared, " + wrong + " wrong; letters less the limit, at most: " + mostLetters);
        if (wrong > 0) System.exit(1);
    }
}
