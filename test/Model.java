import java.util.ArrayDeque;
import java.util.ArrayList;
import java.util.Arrays;
import java.util.Deque;
import java.util.HashSet;
import java.util.List;
import java.util.NoSuchElementException;
import java.util.Set;

/**
 * The document once more, written on its own and as bluntly as can be (whole worlds are copied, trees are
 * found by trying), to be compared with the class. It shares no line with that.
 */
final class Model {
    static final String[] KIND = {"connect", "begin", "test", "accept", "reject", "report", "change"};
    static final List<String> SORTS = List.of("old", "new", "light", "heavy", "low", "high");
    static final List<String> CONDS = List.of("from", "to", "level", "over");

    static final class Letter {
        int kind, way, level = -1, told = -1, state = -1, where = 0, depth;

        Letter copy() {
            Letter c = new Letter();
            c.kind = kind; c.way = way; c.level = level; c.told = told; c.state = state; c.where = where; c.depth = depth;
            return c;
        }
    }

    static final class Node {
        int state, level, name = -1, inward = -1, toward = -1, best = -1, tested = -1, expects, clock;
        boolean halted;
        List<Integer> deferred = new ArrayList<>();

        Node copy() {
            Node c = new Node();
            c.state = state; c.level = level; c.name = name; c.inward = inward; c.toward = toward; c.best = best;
            c.tested = tested; c.expects = expects; c.clock = clock; c.halted = halted;
            c.deferred = new ArrayList<>(deferred);
            return c;
        }
    }

    static final class Line {
        boolean late;
        String word;
        List<String> conds = new ArrayList<>();
        List<Integer> values = new ArrayList<>();
    }

    static final class World {
        List<String> names = new ArrayList<>();
        List<int[]> edges = new ArrayList<>();
        List<Integer> weights = new ArrayList<>();
        List<Node> nodes = new ArrayList<>();
        int[][] end = new int[0][];
        List<Letter> letters = new ArrayList<>();
        List<Deque<Integer>> ways = new ArrayList<>();
        int deferrals, rounds;

        World copy() {
            World c = new World();
            c.names = names;
            c.edges = edges;
            c.weights = new ArrayList<>(weights);
            for (Node n : nodes) c.nodes.add(n.copy());
            c.end = new int[end.length][];
            for (int i = 0; i < end.length; i++) c.end[i] = end[i].clone();
            for (Letter l : letters) c.letters.add(l.copy());
            for (Deque<Integer> w : ways) c.ways.add(new ArrayDeque<>(w));
            c.deferrals = deferrals;
            c.rounds = rounds;
            return c;
        }

        World asleep() {
            World c = new World();
            c.names = names;
            c.edges = edges;
            c.weights = new ArrayList<>(weights);
            for (int i = 0; i < names.size(); i++) c.nodes.add(new Node());
            c.end = new int[edges.size()][2];
            for (int i = 0; i < 2 * edges.size(); i++) c.ways.add(new ArrayDeque<>());
            return c;
        }

        int onWays() {
            int s = 0;
            for (Deque<Integer> w : ways) s += w.size();
            return s;
        }

        int awake() {
            int s = 0;
            for (Node n : nodes) if (n.state != 0) s++;
            return s;
        }

        List<Integer> busy() {
            List<Integer> b = new ArrayList<>();
            for (int w = 0; w < ways.size(); w++) if (!ways.get(w).isEmpty()) b.add(w);
            return b;
        }

        boolean lighter(int e, int f) {
            if (e < 0) return false;
            if (f < 0) return true;
            int a = weights.get(e), b = weights.get(f);
            return a != b ? a < b : e < f;
        }

        int side(int n, int e) { return edges.get(e)[0] == n ? 0 : 1; }

        int from(int way) { return edges.get(way / 2)[way % 2]; }

        int to(int way) { return edges.get(way / 2)[1 - way % 2]; }

        List<Integer> edgesOf(int n) {
            List<Integer> own = new ArrayList<>();
            for (int e = 0; e < edges.size(); e++) if (edges.get(e)[0] == n || edges.get(e)[1] == n) own.add(e);
            return own;
        }

        void send(int n, int e, int kind, int level, int told, int state) {
            Letter l = new Letter();
            l.kind = kind; l.level = level; l.told = told; l.state = state;
            l.way = 2 * e + side(n, e);
            l.depth = nodes.get(n).clock + 1;
            ways.get(l.way).addLast(letters.size());
            letters.add(l);
        }

        void wake(int n) {
            Node x = nodes.get(n);
            x.state = 2;
            int best = -1;
            for (int e : edgesOf(n)) if (lighter(e, best)) best = e;
            if (best < 0) { x.halted = true; return; }
            end[best][side(n, best)] = 1;
            send(n, best, 0, 0, -1, -1);
        }

        void tests(int n) {
            Node x = nodes.get(n);
            int best = -1;
            for (int e : edgesOf(n)) if (end[e][side(n, e)] == 0 && lighter(e, best)) best = e;
            x.tested = best;
            if (best >= 0) send(n, best, 2, x.level, x.name, -1);
            else sums(n);
        }

        void sums(int n) {
            Node x = nodes.get(n);
            if (x.expects == 0 && x.tested < 0) {
                x.state = 2;
                send(n, x.inward, 5, -1, x.best, -1);
            }
        }

        void changes(int n) {
            Node x = nodes.get(n);
            int t = x.toward, s = side(n, t);
            if (end[t][s] == 1) send(n, t, 6, -1, -1, -1);
            else { send(n, t, 0, x.level, -1, -1); end[t][s] = 1; }
        }

        int why(int n, Letter l) {
            Node x = nodes.get(n);
            int e = l.way / 2;
            if (l.kind == 0 && l.level >= x.level && end[e][side(n, e)] == 0) return 2;
            if (l.kind == 2 && l.level > x.level) return 1;
            if (l.kind == 5 && e == x.inward && x.state == 1) return 3;
            return 0;
        }

        int take(int way) {
            int k = ways.get(way).removeFirst();
            Letter l = letters.get(k);
            int n = to(way);
            Node x = nodes.get(n);
            if (x.state == 0 && (l.kind == 0 || l.kind == 2)) wake(n);
            int why = why(n, l);
            if (why > 0) {
                x.deferred.add(k);
                l.where = 1;
                deferrals++;
                return why;
            }
            handle(n, l);
            boolean more = true;
            while (more) {
                more = false;
                for (int i = 0; i < x.deferred.size(); i++) {
                    Letter d = letters.get(x.deferred.get(i));
                    if (why(n, d) == 0) {
                        x.deferred.remove(i);
                        handle(n, d);
                        more = true;
                        break;
                    }
                }
            }
            return 0;
        }

        void handle(int n, Letter l) {
            Node x = nodes.get(n);
            int e = l.way / 2, s = side(n, e);
            l.where = 2;
            if (l.depth > x.clock) x.clock = l.depth;
            if (l.kind == 0) {
                if (l.level < x.level) {
                    end[e][s] = 1;
                    send(n, e, 1, x.level, x.name, x.state);
                    if (x.state == 1) x.expects++;
                } else {
                    send(n, e, 1, x.level + 1, e, 1);
                }
            } else if (l.kind == 1) {
                x.level = l.level; x.name = l.told; x.state = l.state;
                x.inward = e; x.toward = -1; x.best = -1;
                for (int f : edgesOf(n)) {
                    if (f != e && end[f][side(n, f)] == 1) {
                        send(n, f, 1, l.level, l.told, l.state);
                        if (l.state == 1) x.expects++;
                    }
                }
                if (l.state == 1) tests(n);
            } else if (l.kind == 2) {
                if (l.told != x.name) send(n, e, 3, -1, -1, -1);
                else {
                    if (end[e][s] == 0) end[e][s] = 2;
                    if (x.tested == e) tests(n);
                    else send(n, e, 4, -1, -1, -1);
                }
            } else if (l.kind == 3) {
                x.tested = -1;
                if (lighter(e, x.best)) { x.best = e; x.toward = e; }
                sums(n);
            } else if (l.kind == 4) {
                if (end[e][s] == 0) end[e][s] = 2;
                tests(n);
            } else if (l.kind == 5) {
                if (e != x.inward) {
                    x.expects--;
                    if (lighter(l.told, x.best)) { x.best = l.told; x.toward = e; }
                    sums(n);
                } else if (lighter(x.best, l.told)) {
                    changes(n);
                } else if (x.best < 0 && l.told < 0) {
                    x.halted = true;
                }
            } else {
                changes(n);
            }
        }

        /** Parts by flooding over the edges that are allowed. */
        int[] parts(boolean[] allowed) {
            int[] part = new int[names.size()];
            Arrays.fill(part, -1);
            for (int n = 0; n < part.length; n++) {
                if (part[n] >= 0) continue;
                part[n] = n;
                boolean more = true;
                while (more) {
                    more = false;
                    for (int e = 0; e < allowed.length; e++) {
                        int a = edges.get(e)[0], b = edges.get(e)[1];
                        if (allowed[e] && (part[a] == n) != (part[b] == n)) {
                            part[a] = n;
                            part[b] = n;
                            more = true;
                        }
                    }
                }
            }
            return part;
        }

        /** An edge is in the least tree unless lighter ones alone join its nodes. */
        boolean[] tree() {
            boolean[] in = new boolean[edges.size()];
            for (int e = 0; e < in.length; e++) {
                boolean[] allowed = new boolean[edges.size()];
                for (int f = 0; f < in.length; f++) allowed[f] = lighter(f, e);
                int[] p = parts(allowed);
                in[e] = p[edges.get(e)[0]] != p[edges.get(e)[1]];
            }
            return in;
        }

        boolean[] branches() {
            boolean[] b = new boolean[edges.size()];
            for (int e = 0; e < b.length; e++) b[e] = end[e][0] == 1 && end[e][1] == 1;
            return b;
        }
    }

    static final class Fault extends Exception {
        final int kind, place;

        Fault(int kind, int place) { this.kind = kind; this.place = place; }
    }

    byte[] tape = new byte[0];
    World world = new World();
    List<Line> rule = new ArrayList<>();
    Deque<World> past = new ArrayDeque<>();
    World[] keptWorld = new World[2];
    List<List<Line>> keptRule = new ArrayList<>(Arrays.asList(null, null));
    int faultKind, faultLines = -1, nextOut = -1, nextIn = -1;
    String spelled = "";

    // ---- texts
    List<String> words;
    List<Integer> places;
    int at, lines, limitPlace;
    boolean tooLong;

    int feed(int... numbers) {
        if (tape.length + 20 > 940) return -1;
        byte[] t = Arrays.copyOf(tape, tape.length + 20);
        for (int i = 0; i < 20; i++) t[tape.length + i] = (byte) (numbers[i / 4] >>> (24 - i % 4 * 8));
        tape = t;
        return tape.length;
    }

    boolean end(int n) {
        if (n < 0 || n > tape.length) return false;
        tape = Arrays.copyOf(tape, n);
        return true;
    }

    void split(int most) {
        StringBuilder b = new StringBuilder();
        for (byte x : tape) b.append((char) (x & 255));
        String text = b.toString();
        words = new ArrayList<>();
        places = new ArrayList<>();
        tooLong = text.length() > most;
        limitPlace = Math.min(most, text.length());
        java.util.regex.Matcher m = java.util.regex.Pattern.compile("[a-z0-9]+|[^ \n]", java.util.regex.Pattern.DOTALL).matcher(text);
        while (m.find() && m.start() < most) {
            words.add(m.group());
            places.add(m.start());
        }
        words.add("");
        places.add(limitPlace);
        at = 0;
        lines = 0;
    }

    String peek() { return words.get(at); }

    int place() { return places.get(at); }

    Fault fault(int kind, int ahead) { return new Fault(kind, places.get(at - ahead)); }

    static boolean word(String s) { return s.matches("[a-z]{1,7}"); }

    static boolean number(String s) { return s.matches("[0-9]{1,2}"); }

    static boolean told(String s) {
        return Arrays.asList(KIND).contains(s) || SORTS.contains(s) || CONDS.contains(s)
            || s.equals("any") || s.equals("late") || s.equals("node") || s.equals("edge");
    }

    void semicolon() throws Fault {
        if (!peek().equals(";")) throw fault(1, 0);
        at++;
        lines++;
    }

    int nodeHere(List<String> names) throws Fault {
        if (!word(peek()) || told(peek())) throw fault(1, 0);
        if (!names.contains(peek())) throw fault(3, 0);
        return names.indexOf(words.get(at++));
    }

    int numberHere(int low, int high) throws Fault {
        if (!number(peek())) throw fault(1, 0);
        int v = Integer.parseInt(peek());
        if (v < low || v > high) throw fault(2, 0);
        at++;
        return v;
    }

    World parseNet() throws Fault {
        split(900);
        World w = new World();
        while (at < words.size() - 1) {
            if (peek().equals("node")) {
                if (w.names.size() == 12) throw fault(4, 0);
                at++;
                if (!word(peek()) || told(peek())) throw fault(1, 0);
                if (w.names.contains(peek())) throw fault(3, 0);
                w.names.add(words.get(at++));
            } else if (peek().equals("edge")) {
                if (w.edges.size() == 30) throw fault(4, 0);
                at++;
                int a = nodeHere(w.names), b = nodeHere(w.names);
                for (int[] e : w.edges) if (e[0] == a && e[1] == b || e[0] == b && e[1] == a) throw fault(3, 1);
                if (a == b) throw fault(3, 1);
                int v = numberHere(1, 99);
                w.edges.add(new int[] {a, b});
                w.weights.add(v);
            } else {
                throw fault(1, 0);
            }
            semicolon();
        }
        if (tooLong) throw fault(1, 0);
        return w.asleep();
    }

    List<Line> parseRule() throws Fault {
        split(300);
        List<Line> r = new ArrayList<>();
        while (at < words.size() - 1) {
            Line l = new Line();
            boolean pattern = Arrays.asList(KIND).contains(peek()) || peek().equals("any");
            boolean late = peek().equals("late");
            if (!pattern && !late && !SORTS.contains(peek())) throw fault(1, 0);
            if (r.size() == 10) throw fault(4, 0);
            if (late) {
                at++;
                l.late = true;
                if (!Arrays.asList(KIND).contains(peek()) && !peek().equals("any")) throw fault(1, 0);
                pattern = true;
            }
            l.word = words.get(at++);
            if (pattern) {
                while (CONDS.contains(peek())) {
                    if (l.conds.size() == 4) throw fault(4, 0);
                    String c = words.get(at++);
                    l.conds.add(c);
                    if (c.equals("level")) l.values.add(numberHere(0, 9));
                    else if (c.equals("over")) l.values.add(numberHere(1, 99));
                    else l.values.add(nodeHere(world.names));
                }
            }
            r.add(l);
            semicolon();
        }
        if (tooLong) throw fault(1, 0);
        return r;
    }

    int net() {
        try {
            World w = parseNet();
            world = w;
            rule = new ArrayList<>();
            past.clear();
            faultKind = 0;
            faultLines = -1;
            return lines;
        } catch (Fault f) {
            faultKind = f.kind;
            faultLines = lines;
            return -1 - f.place;
        } finally {
            tape = new byte[0];
        }
    }

    int rule() {
        try {
            rule = parseRule();
            faultKind = 0;
            faultLines = -1;
            return lines;
        } catch (Fault f) {
            faultKind = f.kind;
            faultLines = lines;
            return -1 - f.place;
        } finally {
            tape = new byte[0];
        }
    }

    int fault(int what) { return what == 0 ? faultKind : what == 1 ? faultLines : -1; }

    // ---- what is so
    boolean isNode(int n) { return n >= 0 && n < world.names.size(); }

    boolean isEdge(int e) { return e >= 0 && e < world.edges.size(); }

    int node(int n, int what) {
        if (!isNode(n)) throw new NoSuchElementException();
        Node x = world.nodes.get(n);
        int[] all = {x.state, x.level, x.name, x.inward, x.toward, x.best, x.tested, x.expects, x.halted ? 1 : 0, x.deferred.size(), x.clock};
        if (what < 0 || what >= all.length) throw new NoSuchElementException();
        return all[what];
    }

    int edge(int e, int what) {
        if (!isEdge(e)) throw new NoSuchElementException();
        int[] all = {world.edges.get(e)[0], world.edges.get(e)[1], world.weights.get(e), world.end[e][0], world.end[e][1], world.tree()[e] ? 1 : 0};
        if (what < 0 || what >= all.length) throw new NoSuchElementException();
        return all[what];
    }

    int letter(int k, int what) {
        if (k < 0 || k >= world.letters.size()) throw new NoSuchElementException();
        Letter l = world.letters.get(k);
        int[] all = {l.kind, l.way, l.level, l.told, l.state, l.where, l.depth};
        if (what < 0 || what >= all.length) throw new NoSuchElementException();
        return all[what];
    }

    int onWay(int way) { return way < 0 || way >= world.ways.size() ? -1 : world.ways.get(way).size(); }

    int waits(int n, int k, int what) {
        if (!isNode(n) || k < 0 || k >= world.nodes.get(n).deferred.size()) return -1;
        int d = world.nodes.get(n).deferred.get(k);
        return what == 0 ? d : what == 1 ? world.why(n, world.letters.get(d)) : -1;
    }

    // ---- deeds
    void keep(World before) {
        past.addLast(before);
        if (past.size() > 8) past.removeFirst();
    }

    int wake(int n) {
        if (!isNode(n)) return -1;
        if (world.nodes.get(n).state != 0) return 1;
        keep(world.copy());
        world.wake(n);
        return 0;
    }

    int take(int way) {
        if (onWay(way) < 1) return -1;
        keep(world.copy());
        return world.take(way);
    }

    int rounds(int n) {
        if (n < 1 || n > 20) return -1;
        World before = world.copy();
        int taken = 0;
        for (int i = 0; i < n && world.onWays() > 0; i++) {
            int[] sizes = world.ways.stream().mapToInt(Deque::size).toArray();
            for (int w = 0; w < sizes.length; w++) for (int j = 0; j < sizes[w]; j++) { world.take(w); taken++; }
            world.rounds++;
        }
        if (taken > 0) keep(before);
        return taken;
    }

    int steps(int n) {
        if (n < 1 || n > 250) return -1;
        World before = world.copy();
        int taken = run(world, n);
        if (taken > 0) keep(before);
        return taken;
    }

    int run(World w, int most) {
        int taken = 0;
        while (taken < most && w.onWays() > 0) {
            w.take(choose(w));
            taken++;
        }
        return taken;
    }

    boolean matches(World w, Line line, int way) {
        Letter l = w.letters.get(w.ways.get(way).peekFirst());
        if (!line.word.equals("any") && !line.word.equals(KIND[l.kind])) return false;
        for (int i = 0; i < line.conds.size(); i++) {
            int v = line.values.get(i);
            boolean ok;
            switch (line.conds.get(i)) {
                case "from": ok = w.from(way) == v; break;
                case "to": ok = w.to(way) == v; break;
                case "level": ok = l.level >= 0 && l.level == v; break;
                default: ok = w.weights.get(way / 2) > v; break;
            }
            if (!ok) return false;
        }
        return true;
    }

    int choose(World w) {
        List<Integer> left = w.busy();
        if (left.isEmpty()) return -1;
        for (Line line : rule) {
            List<Integer> stay = new ArrayList<>();
            for (int a : left) {
                if (!SORTS.contains(line.word)) {
                    if (matches(w, line, a) != line.late) stay.add(a);
                    continue;
                }
                boolean beaten = false;
                int ka = w.ways.get(a).peekFirst();
                for (int b : left) {
                    int kb = w.ways.get(b).peekFirst();
                    int la = w.letters.get(ka).level, lb = w.letters.get(kb).level;
                    switch (line.word) {
                        case "old": beaten |= kb < ka; break;
                        case "new": beaten |= kb > ka; break;
                        case "light": beaten |= w.lighter(b / 2, a / 2); break;
                        case "heavy": beaten |= w.lighter(a / 2, b / 2); break;
                        case "low": beaten |= lb < la; break;
                        default: beaten |= lb > la; break;
                    }
                }
                if (!beaten) stay.add(a);
            }
            if (!stay.isEmpty()) left = stay;
        }
        return left.get(0);
    }

    int choice() { return choose(world); }

    int weigh(int e, int v) {
        if (!isEdge(e) || v < 1 || v > 99) return -1;
        if (world.awake() > 0) return 1;
        if (world.weights.get(e) == v) return 2;
        keep(world.copy());
        world.weights.set(e, v);
        return 0;
    }

    int again() {
        if (world.awake() == 0) return 1;
        keep(world.copy());
        world = world.asleep();
        return 0;
    }

    int undo() {
        if (past.isEmpty()) return -1;
        world = past.removeLast();
        return past.size();
    }

    int now(int what) {
        World w = world;
        int v = 0;
        switch (what) {
            case 0: return w.letters.size();
            case 1: return w.onWays();
            case 2: for (Letter l : w.letters) if (l.where == 1) v++; return v;
            case 3: for (Letter l : w.letters) if (l.where == 2) v++; return v;
            case 4: return w.deferrals;
            case 5: for (Node n : w.nodes) v = Math.max(v, n.level); return v;
            case 6: return w.awake();
            case 7: { Set<Integer> s = new HashSet<>(); for (int p : w.parts(w.branches())) s.add(p); return s.size(); }
            case 8: for (Node n : w.nodes) if (n.halted) v++; return v;
            case 9: for (Letter l : w.letters) v = Math.max(v, l.depth); return v;
            case 10: return w.rounds;
            default: return -1;
        }
    }

    int sent(int kind) {
        if (kind < 0 || kind > 6) return -1;
        int v = 0;
        for (Letter l : world.letters) if (l.kind == kind) v++;
        return v;
    }

    int limit() {
        int n = world.names.size();
        if (n == 0) return 0;
        int k = 0;
        while (Math.pow(2, k + 1) <= n) k++;
        return 2 * world.edges.size() + 5 * n * k;
    }

    int fragment(int n, int what) {
        if (!isNode(n) || what < 0 || what > 4) throw new NoSuchElementException();
        int[] p = world.parts(world.branches());
        int nodes = 0, edges = 0, level = 0, out = -1;
        for (int i = 0; i < p.length; i++) if (p[i] == p[n]) { nodes |= 1 << i; level = Math.max(level, world.nodes.get(i).level); }
        for (int e = 0; e < world.edges.size(); e++) {
            boolean a = p[world.edges.get(e)[0]] == p[n], b = p[world.edges.get(e)[1]] == p[n];
            if (world.branches()[e] && a) edges |= 1 << e;
            if (a != b && world.lighter(e, out)) out = e;
        }
        return new int[] {Integer.numberOfTrailingZeros(nodes), nodes, edges, level, out}[what];
    }

    int least(int what) {
        boolean[] t = world.tree();
        int sum = 0, bits = 0;
        for (int e = 0; e < t.length; e++) if (t[e]) { sum += world.weights.get(e); bits |= 1 << e; }
        boolean[] all = new boolean[t.length];
        Arrays.fill(all, true);
        Set<Integer> s = new HashSet<>();
        for (int p : world.parts(all)) s.add(p);
        return what == 0 ? sum : what == 1 ? bits : what == 2 ? s.size() : -1;
    }

    /** The tree's edges without which the two are not joined: the heaviest. */
    int heaviest(int a, int b) {
        if (!isNode(a) || !isNode(b) || a == b) return -1;
        boolean[] t = world.tree();
        int[] p = world.parts(t);
        if (p[a] != p[b]) return -1;
        int best = -1;
        for (int e = 0; e < t.length; e++) {
            if (!t[e]) continue;
            boolean[] less = t.clone();
            less[e] = false;
            int[] q = world.parts(less);
            if (q[a] != q[b] && (best < 0 || world.lighter(best, e))) best = e;
        }
        return best;
    }

    /** By trying: weights far above and below all others are tried, too. */
    int slack(int e) {
        if (!isEdge(e)) return -1;
        World w = world.copy();
        int own = w.weights.get(e);
        boolean in = w.tree()[e];
        for (int d = 1; d < 300; d++) {
            w.weights.set(e, in ? own + d : own - d);
            if (w.tree()[e] != in) return in ? d - 1 : d;
        }
        return -1;
    }

    int next() {
        boolean[] t = world.tree();
        int parts = least(2), best = -1;
        for (int in = 0; in < t.length; in++) {
            for (int out = 0; out < t.length; out++) {
                if (t[in] || !t[out]) continue;
                boolean[] other = t.clone();
                other[in] = true;
                other[out] = false;
                Set<Integer> s = new HashSet<>();
                for (int p : world.parts(other)) s.add(p);
                if (s.size() != parts) continue;
                int sum = least(0) - world.weights.get(out) + world.weights.get(in);
                if (best < 0 || sum < best || sum == best && in == nextIn && world.lighter(nextOut, out)) {
                    best = sum;
                    nextOut = out;
                    nextIn = in;
                }
            }
        }
        return best;
    }

    int nextBy(int what) { return what == 0 ? nextOut : what == 1 ? nextIn : -1; }

    int until() { return run(world.copy(), 1000000); }

    int starts(int n) {
        if (!isNode(n)) return -1;
        World w = world.asleep();
        w.wake(n);
        run(w, 1000000);
        return w.letters.size();
    }

    int starter() {
        int best = -1;
        for (int n = world.names.size() - 1; n >= 0; n--) if (best < 0 || starts(n) <= starts(best)) best = n;
        return best;
    }

    int x;

    int draw(int n) {
        x = x * 1103515245 + 12345;
        return (x >>> 8) % n;
    }

    int cores(int e, int n, int seed) {
        if (!isEdge(e) || n < 1 || n > 10) return -1;
        int v = 0;
        for (int i = 0; i < n; i++) {
            World w = world.asleep();
            for (int j = 0; j < w.names.size(); j++) w.wake(j);
            x = seed + i;
            while (w.onWays() > 0) w.take(w.busy().get(draw(w.busy().size())));
            if (w.nodes.get(w.edges.get(e)[0]).name == e) v++;
        }
        return v;
    }

    int drawn(int n, int seed) {
        if (n < 1 || n > 60) return -1;
        World before = world.copy();
        x = seed;
        int done = 0;
        for (int i = 0; i < n && !world.names.isEmpty(); i++) {
            if (draw(8) == 0) {
                int node = draw(world.names.size());
                if (world.nodes.get(node).state == 0) { world.wake(node); done++; }
            } else if (world.onWays() > 0) {
                world.take(world.busy().get(draw(world.busy().size())));
                done++;
            }
        }
        if (done > 0) keep(before);
        return done;
    }

    int spell(int k) {
        if (k < 0 || k >= world.letters.size()) return -1;
        Letter l = world.letters.get(k);
        String s = world.names.get(world.from(l.way)) + ">" + world.names.get(world.to(l.way)) + " " + KIND[l.kind];
        if (l.kind <= 2) s += " " + l.level;
        if (l.kind == 1 || l.kind == 2 || l.kind == 5) s += " " + (l.told < 0 ? "-" : "" + l.told);
        if (l.kind == 1) s += " " + l.state;
        spelled = s;
        return s.length();
    }

    int byteAt(int i) { return i < 0 || i >= spelled.length() ? -1 : spelled.charAt(i); }

    boolean image(int k) {
        if (k < 0 || k > 1) return false;
        keptWorld[k] = world.copy();
        keptRule.set(k, rule);
        return true;
    }

    boolean restore(int k) {
        if (k < 0 || k > 1 || keptWorld[k] == null) return false;
        world = keptWorld[k].copy();
        rule = keptRule.get(k);
        past.clear();
        return true;
    }

    int count(int what) {
        switch (what) {
            case 0: return world.names.size();
            case 1: return world.edges.size();
            case 2: return rule.size();
            case 3: return tape.length;
            default: return -1;
        }
    }
}
