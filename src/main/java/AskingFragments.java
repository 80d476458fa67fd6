import java.util.NoSuchElementException;

/**
 * Nodes that find their least spanning tree by letters alone. A NET and a RULE are told as texts on a
 * tape; nodes are woken and letters taken one by one, in rounds, by draws or by the rule.
 */
public final class AskingFragments {
    public static final int NONE = -1;

    private static final int MOST_NODES = 12;
    private static final int MOST_EDGES = 30;
    private static final int MOST_WAYS = 2 * MOST_EDGES;
    private static final int MOST_NAME = 7;
    private static final int MOST_LINES = 10;
    private static final int MOST_CONDS = 4;
    private static final int MOST_TAPE = 940;
    private static final int MOST_NET = 900;
    private static final int MOST_RULE = 300;
    private static final int MOST_WEIGHT = 99;
    private static final int MOST_UNDO = 8;
    private static final int IMAGES = 2;
    // A run sends two letters for each edge that is rejected, and for each node one by waking, five for each
    // level but the last, two at that: with 12 nodes (levels 1 to 3) and 30 edges fewer than the LIMIT, 240.
    private static final int MOST_LETTERS = 256;

    private static final int KINDS = 7;
    private static final int CONNECT = 0;
    private static final int BEGIN = 1;
    private static final int TEST = 2;
    private static final int ACCEPT = 3;
    private static final int REJECT = 4;
    private static final int REPORT = 5;
    private static final int CHANGE = 6;

    // The words of both texts; the first seven are the letters' kinds, so that one number serves for both.
    private static final int ANY = 7;
    private static final int OLD = 8;
    private static final int NEW = 9;
    private static final int LIGHT = 10;
    private static final int HEAVY = 11;
    private static final int LOW = 12;
    private static final int HIGH = 13;
    private static final int LATE = 14;
    private static final int FROM = 15;
    private static final int TO = 16;
    private static final int OF_LEVEL = 17;
    private static final int OVER = 18;
    private static final int NODE = 19;
    private static final int EDGE = 20;
    private static final int WORDS = 21;

    private static final int ASLEEP = 0;
    private static final int FINDING = 1;
    private static final int FOUND = 2;

    private static final int BASIC = 0;
    private static final int BRANCH = 1;
    private static final int REJECTED = 2;

    // What stands where in a node's part of a row: the numbers are those of the face.
    private static final int NODE_PARTS = 11;
    private static final int STATE = 0;
    private static final int LEVEL = 1;
    private static final int NAME = 2;
    private static final int INWARD = 3;
    private static final int TOWARD = 4;
    private static final int BEST = 5;
    private static final int TESTED = 6;
    private static final int EXPECTS = 7;
    private static final int HALTED = 8;
    private static final int WAITING = 9;
    private static final int CLOCK = 10;

    // The same of a letter; the last one, which letter is next on its way, is not told outside.
    private static final int LETTER_PARTS = 8;
    private static final int TOLD_PARTS = 7;
    private static final int L_KIND = 0;
    private static final int L_WAY = 1;
    private static final int L_LEVEL = 2;
    private static final int L_TOLD = 3;
    private static final int L_STATE = 4;
    private static final int L_WHERE = 5;
    private static final int L_DEPTH = 6;
    private static final int L_AFTER = 7;

    private static final int ON_WAY = 0;
    private static final int DEFERRED = 1;
    private static final int HANDLED = 2;

    // What a node has to do yet when it has dealt with a letter.
    private static final int NOTHING = 0;
    private static final int TESTS = 1;
    private static final int SUMS_UP = 2;
    private static final int CHANGES = 3;

    private final byte[] tape;
    private int tapeLength;
    private final Reader reader;
    private final Net graph;
    private final Net draftNet;
    private final Rule order;
    private final Rule draftRule;
    private final Run run;
    private final Run trial;
    private final Run[] past;
    private int pastTop;
    private int pastCount;
    private final Image[] images;
    private final Forest forest;
    private final Spelling spelling;
    private int nextOut;
    private int nextIn;

    public AskingFragments() {
        tape = new byte[MOST_TAPE];
        reader = new Reader(tape);
        graph = new Net();
        draftNet = new Net();
        order = new Rule();
        draftRule = new Rule();
        run = new Run(graph);
        trial = new Run(graph);
        // One place more than acts are kept: the act that is tried now is written there first.
        past = new Run[MOST_UNDO + 1];
        for (int i = 0; i < past.length; i++) {
            past[i] = new Run(graph);
        }
        images = new Image[IMAGES];
        for (int i = 0; i < images.length; i++) {
            images[i] = new Image();
        }
        forest = new Forest(graph);
        spelling = new Spelling();
        nextOut = NONE;
        nextIn = NONE;
    }

    public int feed(int a, int b, int c, int d, int e) {
        if (tapeLength + 20 > MOST_TAPE) {
            return NONE;
        }
        putBytes(a);
        putBytes(b);
        putBytes(c);
        putBytes(d);
        putBytes(e);
        return tapeLength;
    }

    public boolean end(int n) {
        if (n < 0 || n > tapeLength) {
            return false;
        }
        tapeLength = n;
        return true;
    }

    public int net() {
        draftNet.clear();
        boolean good = reader.readNet(tapeLength, draftNet);
        tapeLength = 0;
        if (!good) {
            return -1 - reader.faultPlace;
        }
        graph.copyFrom(draftNet);
        order.clear();
        run.renew();
        pastCount = 0;
        return reader.lines;
    }

    public int rule() {
        draftRule.clear();
        boolean good = reader.readRule(tapeLength, draftRule, graph);
        tapeLength = 0;
        if (!good) {
            return -1 - reader.faultPlace;
        }
        order.copyFrom(draftRule);
        return reader.lines;
    }

    public int fault(int what) {
        switch (what) {
            case 0:
                return reader.faultKind;
            case 1:
                return reader.faultKind == 0 ? NONE : reader.lines;
            default:
                return NONE;
        }
    }

    public int node(int n, int what) throws NoSuchElementException {
        if (!isNode(n) || what < 0 || what >= NODE_PARTS) {
            throw new NoSuchElementException();
        }
        return run.of(n, what);
    }

    public int edge(int e, int what) throws NoSuchElementException {
        if (!isEdge(e)) {
            throw new NoSuchElementException();
        }
        switch (what) {
            case 0:
                return graph.firstOf(e);
            case 1:
                return graph.secondOf(e);
            case 2:
                return run.weightOf(e);
            case 3:
                return at(run.ends, 2 * e);
            case 4:
                return at(run.ends, 2 * e + 1);
            case 5:
                return forest.inTree(run, e) ? 1 : 0;
            default:
                throw new NoSuchElementException();
        }
    }

    public int letter(int k, int what) throws NoSuchElementException {
        if (!isLetter(k) || what < 0 || what >= TOLD_PARTS) {
            throw new NoSuchElementException();
        }
        return run.told(k, what);
    }

    public int onWay(int way) {
        return isWay(way) ? at(run.onEach, way) : NONE;
    }

    public int waits(int n, int k, int what) {
        if (!isNode(n) || k < 0 || what < 0 || what > 1) {
            return NONE;
        }
        int found = run.waitingAt(n, k);
        return found == NONE || what == 0 ? found : whyOf(run.told(found, L_KIND));
    }

    public int wake(int n) {
        if (!isNode(n)) {
            return NONE;
        }
        if (run.of(n, STATE) != ASLEEP) {
            return 1;
        }
        noteBefore();
        run.rouse(n);
        keepNoted();
        return 0;
    }

    public int take(int way) {
        if (!isWay(way) || at(run.onEach, way) == 0) {
            return NONE;
        }
        noteBefore();
        int why = run.receive(way);
        keepNoted();
        return why;
    }

    public int rounds(int n) {
        if (n < 1 || n > 20) {
            return NONE;
        }
        noteBefore();
        int taken = 0;
        for (int i = 0; i < n && run.onWays > 0; i++) {
            taken += run.makeRound();
        }
        if (taken > 0) {
            keepNoted();
        }
        return taken;
    }

    public int steps(int n) {
        if (n < 1 || n > 250) {
            return NONE;
        }
        noteBefore();
        int taken = takeByRule(run, n);
        if (taken > 0) {
            keepNoted();
        }
        return taken;
    }

    public int choice() {
        return order.choose(run);
    }

    public int weigh(int e, int w) {
        if (!isEdge(e) || w < 1 || w > MOST_WEIGHT) {
            return NONE;
        }
        if (run.awake() > 0) {
            return 1;
        }
        if (run.weightOf(e) == w) {
            return 2;
        }
        noteBefore();
        put(run.weights, e, w);
        keepNoted();
        return 0;
    }

    public int again() {
        if (run.awake() == 0) {
            return 1;
        }
        noteBefore();
        run.layToSleep();
        keepNoted();
        return 0;
    }

    public int undo() {
        if (pastCount <= 0) {
            return NONE;
        }
        pastTop = (pastTop + MOST_UNDO) % (MOST_UNDO + 1);
        pastCount--;
        Run before = pastAt(pastTop);
        if (before != null) {
            run.copyFrom(before);
        }
        return pastCount;
    }

    public int now(int what) {
        switch (what) {
            case 0:
                return run.letters;
            case 1:
                return run.onWays;
            case 2:
                return run.waitingCount;
            case 3:
                return run.handled;
            case 4:
                return run.deferrals;
            case 5:
                return run.highestLevel();
            case 6:
                return run.awake();
            case 7:
                return forest.fragments(run);
            case 8:
                return run.halted();
            case 9:
                return run.deepest;
            case 10:
                return run.roundCount;
            default:
                return NONE;
        }
    }

    public int sent(int kind) {
        return at(run.sentOf, kind);
    }

    public int limit() {
        int k = 0;
        for (int i = 1; i <= 4 && (1 << i) <= graph.nodes; i++) {
            k = i;
        }
        return 2 * graph.edges + 5 * graph.nodes * k;
    }

    public int fragment(int n, int what) throws NoSuchElementException {
        if (!isNode(n) || what < 0 || what > 4) {
            throw new NoSuchElementException();
        }
        forest.fragments(run);
        int least = forest.partOf(n);
        switch (what) {
            case 0:
                return least;
            case 1:
                return forest.nodeBits(least);
            case 2:
                return forest.branchBits(run, least);
            case 3:
                return forest.highestLevel(run, least);
            default:
                return forest.lightestOut(run, least);
        }
    }

    public int least(int what) {
        if (what < 0 || what > 2) {
            return NONE;
        }
        forest.growTree(run);
        switch (what) {
            case 0:
                return forest.total;
            case 1:
                return forest.bits;
            default:
                return forest.parts;
        }
    }

    public int heaviest(int a, int b) {
        return isNode(a) && isNode(b) && a != b ? forest.joiner(run, a, b, NONE) : NONE;
    }

    public int slack(int e) {
        return isEdge(e) ? forest.slackOf(run, e) : NONE;
    }

    public int next() {
        forest.growTree(run);
        int total = forest.total;
        int best = NONE;
        for (int in = 0; in < graph.edges; in++) {
            int out = forest.joiner(run, graph.firstOf(in), graph.secondOf(in), NONE);
            int sum = total - run.weightOf(out) + run.weightOf(in);
            if (out != in && (best == NONE || sum < best)) {
                best = sum;
                nextOut = out;
                nextIn = in;
            }
        }
        return best;
    }

    public int nextBy(int what) {
        switch (what) {
            case 0:
                return nextOut;
            case 1:
                return nextIn;
            default:
                return NONE;
        }
    }

    public int until() {
        trial.copyFrom(run);
        return takeByRule(trial, MOST_LETTERS);
    }

    public int starts(int n) {
        return isNode(n) ? lettersFrom(n) : NONE;
    }

    public int starter() {
        int best = NONE;
        int fewest = 0;
        for (int n = 0; n < graph.nodes; n++) {
            int count = lettersFrom(n);
            if (best == NONE || count < fewest) {
                best = n;
                fewest = count;
            }
        }
        return best;
    }

    public int cores(int e, int n, int seed) {
        if (!isEdge(e) || n < 1 || n > 10) {
            return NONE;
        }
        int count = 0;
        for (int i = 0; i < n; i++) {
            runDrawn(seed + i);
            if (trial.of(graph.firstOf(e), NAME) == e) {
                count++;
            }
        }
        return count;
    }

    public int drawn(int n, int seed) {
        if (n < 1 || n > 60) {
            return NONE;
        }
        noteBefore();
        int x = seed;
        int done = 0;
        for (int i = 0; i < n && graph.nodes > 0; i++) {
            x = stir(x);
            if (pick(x, 8) == 0) {
                x = stir(x);
                done += run.rouse(pick(x, graph.nodes)) ? 1 : 0;
            } else if (run.onWays > 0) {
                x = stir(x);
                run.receive(run.busyWay(pick(x, run.busyWays())));
                done++;
            }
        }
        if (done > 0) {
            keepNoted();
        }
        return done;
    }

    public int spell(int k) {
        if (!isLetter(k)) {
            return NONE;
        }
        spelling.write(run, graph, k);
        return spelling.length;
    }

    public int byteAt(int i) {
        return spelling.signAt(i);
    }

    public boolean image(int k) {
        Image kept = imageAt(k);
        if (kept == null) {
            return false;
        }
        kept.graph.copyFrom(graph);
        kept.order.copyFrom(order);
        kept.run.copyFrom(run);
        kept.full = true;
        return true;
    }

    public boolean restore(int k) {
        Image kept = imageAt(k);
        if (kept == null || !kept.full) {
            return false;
        }
        graph.copyFrom(kept.graph);
        order.copyFrom(kept.order);
        run.copyFrom(kept.run);
        pastCount = 0;
        return true;
    }

    public int count(int what) {
        switch (what) {
            case 0:
                return graph.nodes;
            case 1:
                return graph.edges;
            case 2:
                return order.lines;
            case 3:
                return tapeLength;
            default:
                return NONE;
        }
    }

    private void putBytes(int word) {
        for (int shift = 24; shift >= 0; shift -= 8) {
            if (tapeLength >= 0 && tapeLength < tape.length) {
                tape[tapeLength] = (byte) (word >> shift);
                tapeLength++;
            }
        }
    }

    private boolean isNode(int n) {
        return n >= 0 && n < graph.nodes;
    }

    private boolean isEdge(int e) {
        return e >= 0 && e < graph.edges;
    }

    private boolean isWay(int way) {
        return way >= 0 && way < 2 * graph.edges;
    }

    private boolean isLetter(int k) {
        return k >= 0 && k < run.letters;
    }

    private Run pastAt(int i) {
        return i >= 0 && i < past.length ? past[i] : null;
    }

    private Image imageAt(int k) {
        return k >= 0 && k < images.length ? images[k] : null;
    }

    private void noteBefore() {
        Run place = pastAt(pastTop);
        if (place != null) {
            place.copyFrom(run);
        }
    }

    private void keepNoted() {
        pastTop = (pastTop + 1) % (MOST_UNDO + 1);
        pastCount = Math.min(pastCount + 1, MOST_UNDO);
    }

    private int takeByRule(Run on, int most) {
        int taken = 0;
        for (int i = 0; i < most && on.onWays > 0; i++) {
            on.receive(order.choose(on));
            taken++;
        }
        return taken;
    }

    private int lettersFrom(int n) {
        trial.copyFrom(run);
        trial.layToSleep();
        trial.rouse(n);
        takeByRule(trial, MOST_LETTERS);
        return trial.letters;
    }

    private void runDrawn(int seed) {
        trial.copyFrom(run);
        trial.layToSleep();
        for (int n = 0; n < graph.nodes; n++) {
            trial.rouse(n);
        }
        int x = seed;
        for (int i = 0; i < MOST_LETTERS && trial.onWays > 0; i++) {
            x = stir(x);
            trial.receive(trial.busyWay(pick(x, trial.busyWays())));
        }
    }

    private static int stir(int x) {
        return x * 1103515245 + 12345;
    }

    private static int pick(int x, int n) {
        return n > 0 ? (x >>> 8) % n : 0;
    }

    private static int whyOf(int kind) {
        switch (kind) {
            case TEST:
                return 1;
            case CONNECT:
                return 2;
            default:
                return 3;
        }
    }

    private static int at(int[] row, int i) {
        return i >= 0 && i < row.length ? row[i] : NONE;
    }

    private static void put(int[] row, int i, int value) {
        if (i >= 0 && i < row.length) {
            row[i] = value;
        }
    }

    private static void copyRow(int[] from, int[] to, int count) {
        int n = Math.min(count, Math.min(from.length, to.length));
        if (n > 0) {
            System.arraycopy(from, 0, to, 0, n);
        }
    }

    private static void fillRow(int[] row, int value) {
        for (int i = 0; i < row.length; i++) {
            row[i] = value;
        }
    }

    private static String wordOf(int word) {
        switch (word) {
            case CONNECT: return "connect";
            case BEGIN: return "begin";
            case TEST: return "test";
            case ACCEPT: return "accept";
            case REJECT: return "reject";
            case REPORT: return "report";
            case CHANGE: return "change";
            case ANY: return "any";
            case OLD: return "old";
            case NEW: return "new";
            case LIGHT: return "light";
            case HEAVY: return "heavy";
            case LOW: return "low";
            case HIGH: return "high";
            case LATE: return "late";
            case FROM: return "from";
            case TO: return "to";
            case OF_LEVEL: return "level";
            case OVER: return "over";
            case NODE: return "node";
            case EDGE: return "edge";
            default: return "";
        }
    }

    /** What a NET's text tells: names, and which nodes each edge joins, with the weight as told. */
    private static final class Net {
        int nodes;
        int edges;
        final byte[] names = new byte[MOST_NODES * MOST_NAME];
        final int[] nameLengths = new int[MOST_NODES];
        final int[] senders = new int[MOST_WAYS];
        final int[] toldWeights = new int[MOST_EDGES];

        void clear() {
            nodes = 0;
            edges = 0;
        }

        void copyFrom(Net other) {
            nodes = other.nodes;
            edges = other.edges;
            for (int i = 0; i < names.length && i < other.names.length; i++) {
                names[i] = other.names[i];
            }
            copyRow(other.nameLengths, nameLengths, MOST_NODES);
            copyRow(other.senders, senders, MOST_WAYS);
            copyRow(other.toldWeights, toldWeights, MOST_EDGES);
        }

        int firstOf(int e) {
            return at(senders, 2 * e);
        }

        int secondOf(int e) {
            return at(senders, 2 * e + 1);
        }

        int senderOn(int way) {
            return at(senders, way);
        }

        int receiverOn(int way) {
            return at(senders, way ^ 1);
        }

        /** The way from a node over an edge; by the same number the edge's END at that node is kept. */
        int wayFrom(int n, int e) {
            return at(senders, 2 * e) == n ? 2 * e : 2 * e + 1;
        }

        int nameSign(int n, int i) {
            int place = n * MOST_NAME + i;
            return place >= 0 && place < names.length ? names[place] : NONE;
        }

        void putNameSign(int n, int i, int sign) {
            int place = n * MOST_NAME + i;
            if (place >= 0 && place < names.length) {
                names[place] = (byte) sign;
            }
        }

        void addEdge(int a, int b, int weight) {
            put(senders, 2 * edges, a);
            put(senders, 2 * edges + 1, b);
            put(toldWeights, edges, weight);
            edges++;
        }

        boolean joins(int a, int b) {
            for (int way = 0; way < 2 * edges; way++) {
                if (senderOn(way) == a && receiverOn(way) == b) {
                    return true;
                }
            }
            return false;
        }
    }

    /** The lines of a RULE: a pattern's line has its kind's word, another line its own. */
    private static final class Rule {
        int lines;
        final int[] words = new int[MOST_LINES];
        final int[] lates = new int[MOST_LINES];
        final int[] condCounts = new int[MOST_LINES];
        final int[] condWords = new int[MOST_LINES * MOST_CONDS];
        final int[] condValues = new int[MOST_LINES * MOST_CONDS];
        final int[] left = new int[MOST_WAYS];
        final int[] grades = new int[MOST_WAYS];
        int leftCount;

        void clear() {
            lines = 0;
        }

        void copyFrom(Rule other) {
            lines = other.lines;
            copyRow(other.words, words, MOST_LINES);
            copyRow(other.lates, lates, MOST_LINES);
            copyRow(other.condCounts, condCounts, MOST_LINES);
            copyRow(other.condWords, condWords, MOST_LINES * MOST_CONDS);
            copyRow(other.condValues, condValues, MOST_LINES * MOST_CONDS);
        }

        void addLine(int word, boolean late) {
            put(words, lines, word);
            put(lates, lines, late ? 1 : 0);
            put(condCounts, lines, 0);
            lines++;
        }

        void addCond(int word, int value) {
            int line = lines - 1;
            int c = at(condCounts, line);
            put(condWords, line * MOST_CONDS + c, word);
            put(condValues, line * MOST_CONDS + c, value);
            put(condCounts, line, c + 1);
        }

        int choose(Run run) {
            leftCount = 0;
            for (int way = 0; way < run.wayCount(); way++) {
                if (at(run.onEach, way) > 0) {
                    put(left, leftCount, way);
                    leftCount++;
                }
            }
            for (int line = 0; line < lines && leftCount > 1; line++) {
                for (int i = 0; i < leftCount; i++) {
                    put(grades, i, grade(run, line, at(left, i)));
                }
                keepBest();
            }
            return leftCount > 0 ? at(left, 0) : NONE;
        }

        private void keepBest() {
            int best = at(grades, 0);
            for (int i = 1; i < leftCount; i++) {
                best = Math.min(best, at(grades, i));
            }
            int stay = 0;
            for (int i = 0; i < leftCount; i++) {
                if (at(grades, i) == best) {
                    put(left, stay, at(left, i));
                    stay++;
                }
            }
            leftCount = stay;
        }

        /** The least grade is the best one: a pattern that none matches grades all alike, so all are left. */
        private int grade(Run run, int line, int way) {
            int k = at(run.firstOn, way);
            int e = way / 2;
            switch (at(words, line)) {
                case OLD:
                    return k;
                case NEW:
                    return -k;
                case LIGHT:
                    return run.weightOf(e) * MOST_EDGES + e;
                case HEAVY:
                    return -(run.weightOf(e) * MOST_EDGES + e);
                case LOW:
                    return run.told(k, L_LEVEL);
                case HIGH:
                    return -run.told(k, L_LEVEL);
                default:
                    return matches(run, line, way) == (at(lates, line) == 0) ? 0 : 1;
            }
        }

        private boolean matches(Run run, int line, int way) {
            int k = at(run.firstOn, way);
            int word = at(words, line);
            if (word != ANY && word != run.told(k, L_KIND)) {
                return false;
            }
            int base = line * MOST_CONDS;
            for (int c = 0; c < at(condCounts, line) && c < MOST_CONDS; c++) {
                if (!holds(run, at(condWords, base + c), at(condValues, base + c), way)) {
                    return false;
                }
            }
            return true;
        }

        /** It looks into the rows itself, so that calls don't go too deep. */
        private boolean holds(Run run, int word, int value, int way) {
            switch (word) {
                case FROM:
                    return at(run.graph.senders, way) == value;
                case TO:
                    return at(run.graph.senders, way ^ 1) == value;
                case OF_LEVEL:
                    return at(run.letterRow, at(run.firstOn, way) * LETTER_PARTS + L_LEVEL) == value;
                default:
                    return at(run.weights, way / 2) > value;
            }
        }
    }

    /** Reads the tape as a NET or a RULE, token by token, till the first fault. */
    private static final class Reader {
        private static final int END = 0;
        private static final int WORD = 1;
        private static final int NUMBER = 2;
        private static final int SIGN = 3;
        private static final int NO_TOKEN = 4;

        final byte[] bytes;
        int length;
        int most;
        int place;
        int sort;
        int start;
        int value;
        int lines;
        int faultKind;
        int faultPlace;

        Reader(byte[] bytes) {
            this.bytes = bytes;
        }

        boolean readNet(int bytesThere, Net into) {
            open(bytesThere, MOST_NET);
            for (int i = 0; i <= MOST_TAPE; i++) {
                readToken();
                if (sort == END) {
                    return length <= most || refuse(1);
                }
                boolean good = isWord(NODE) ? nodeLine(into) : isWord(EDGE) ? edgeLine(into) : refuse(1);
                if (!good) {
                    return false;
                }
                lines++;
            }
            return false;
        }

        boolean readRule(int bytesThere, Rule into, Net graph) {
            open(bytesThere, MOST_RULE);
            for (int i = 0; i <= MOST_TAPE; i++) {
                readToken();
                if (sort == END) {
                    return length <= most || refuse(1);
                }
                boolean sorting = isSorting();
                if (!headOfLine(into) || !(sorting ? closes() : readConds(into, graph))) {
                    return false;
                }
                lines++;
            }
            return false;
        }

        private void open(int bytesThere, int mostBytes) {
            length = bytesThere;
            most = mostBytes;
            place = 0;
            lines = 0;
            faultKind = 0;
            faultPlace = 0;
        }

        private boolean refuse(int kind) {
            faultKind = kind;
            faultPlace = start;
            return false;
        }

        private boolean nodeLine(Net into) {
            if (into.nodes >= MOST_NODES) {
                return refuse(4);
            }
            readToken();
            if (!isName()) {
                return refuse(1);
            }
            if (named(into) != NONE) {
                return refuse(3);
            }
            for (int i = 0; i < MOST_NAME && start + i < place; i++) {
                into.putNameSign(into.nodes, i, signAt(start + i));
            }
            put(into.nameLengths, into.nodes, place - start);
            into.nodes++;
            return closes();
        }

        private boolean edgeLine(Net into) {
            if (into.edges >= MOST_EDGES) {
                return refuse(4);
            }
            int a = readNode(into);
            int b = a == NONE ? NONE : readNode(into);
            if (b == NONE) {
                return false;
            }
            if (a == b || into.joins(a, b)) {
                return refuse(3);
            }
            int weight = readNumber(1, MOST_WEIGHT);
            if (weight == NONE) {
                return false;
            }
            into.addEdge(a, b, weight);
            return closes();
        }

        private boolean headOfLine(Rule into) {
            boolean late = isWord(LATE);
            if (!late && !isPattern() && !isSorting()) {
                return refuse(1);
            }
            if (into.lines >= MOST_LINES) {
                return refuse(4);
            }
            if (late) {
                readToken();
                if (!isPattern()) {
                    return refuse(1);
                }
            }
            into.addLine(value, late);
            return true;
        }

        private boolean readConds(Rule into, Net graph) {
            for (int i = 0; i <= MOST_CONDS; i++) {
                readToken();
                if (sort == SIGN) {
                    return true;
                }
                if (sort != WORD || value < FROM || value > OVER) {
                    return refuse(1);
                }
                if (i == MOST_CONDS) {
                    return refuse(4);
                }
                int word = value;
                int told = readCondValue(word, graph);
                if (told == NONE) {
                    return false;
                }
                into.addCond(word, told);
            }
            return false;
        }

        private int readCondValue(int word, Net graph) {
            switch (word) {
                case OF_LEVEL:
                    return readNumber(0, 9);
                case OVER:
                    return readNumber(1, 99);
                default:
                    return readNode(graph);
            }
        }

        private boolean closes() {
            readToken();
            return sort == SIGN || refuse(1);
        }

        private int readNode(Net graph) {
            readToken();
            if (!isName()) {
                refuse(1);
                return NONE;
            }
            int n = named(graph);
            if (n == NONE) {
                refuse(3);
            }
            return n;
        }

        private int readNumber(int lowest, int highest) {
            readToken();
            if (sort != NUMBER) {
                refuse(1);
                return NONE;
            }
            if (value < lowest || value > highest) {
                refuse(2);
                return NONE;
            }
            return value;
        }

        private boolean isWord(int word) {
            return sort == WORD && value == word;
        }

        private boolean isName() {
            return sort == WORD && value == NONE;
        }

        private boolean isPattern() {
            return sort == WORD && value >= CONNECT && value <= ANY;
        }

        private boolean isSorting() {
            return sort == WORD && value >= OLD && value <= HIGH;
        }

        private int named(Net graph) {
            for (int n = 0; n < graph.nodes; n++) {
                boolean same = at(graph.nameLengths, n) == place - start;
                for (int i = 0; same && i < place - start; i++) {
                    same = graph.nameSign(n, i) == signAt(start + i);
                }
                if (same) {
                    return n;
                }
            }
            return NONE;
        }

        private int signAt(int i) {
            return i >= 0 && i < length && i < bytes.length ? bytes[i] : NONE;
        }

        private void readToken() {
            while (place < length && (signAt(place) == 32 || signAt(place) == 10)) {
                place++;
            }
            start = place;
            if (place >= Math.min(length, most)) {
                sort = END;
                start = Math.min(length, most);
            } else if (signAt(place) == ';') {
                sort = SIGN;
                place++;
            } else {
                readRun();
                if (sort == WORD) {
                    value = keyword();
                }
            }
        }

        /** Letters and digits are read together: a run that mixes them is no token as a whole. */
        private void readRun() {
            int small = 0;
            int digits = 0;
            int number = 0;
            while (place < length && (isSmall(signAt(place)) || isDigit(signAt(place)))) {
                if (isSmall(signAt(place))) {
                    small++;
                } else {
                    digits++;
                    number = (number * 10 + signAt(place) - '0') % 1000;
                }
                place++;
            }
            if (digits == 0 && small >= 1 && small <= MOST_NAME) {
                sort = WORD;
            } else if (small == 0 && digits >= 1 && digits <= 2) {
                sort = NUMBER;
                value = number;
            } else {
                sort = NO_TOKEN;
            }
        }

        private int keyword() {
            for (int word = 0; word < WORDS; word++) {
                String text = wordOf(word);
                boolean same = text.length() == place - start;
                for (int i = 0; same && i < text.length(); i++) {
                    same = text.charAt(i) == signAt(start + i);
                }
                if (same) {
                    return word;
                }
            }
            return NONE;
        }

        private static boolean isSmall(int sign) {
            return sign >= 'a' && sign <= 'z';
        }

        private static boolean isDigit(int sign) {
            return sign >= '0' && sign <= '9';
        }
    }

    /** All that changes while nodes are woken and letters taken, and how they deal with letters. */
    private static final class Run {
        final Net graph;
        final int[] weights = new int[MOST_EDGES];
        final int[] nodeRow = new int[MOST_NODES * NODE_PARTS];
        final int[] ends = new int[MOST_WAYS];
        final int[] letterRow = new int[MOST_LETTERS * LETTER_PARTS];
        final int[] firstOn = new int[MOST_WAYS];
        final int[] lastOn = new int[MOST_WAYS];
        final int[] onEach = new int[MOST_WAYS];
        final int[] atBeginning = new int[MOST_WAYS];
        final int[] waiting = new int[MOST_LETTERS];
        final int[] sentOf = new int[KINDS];
        int letters;
        int onWays;
        int waitingCount;
        int handled;
        int deferrals;
        int deepest;
        int roundCount;

        Run(Net graph) {
            this.graph = graph;
        }

        void copyFrom(Run other) {
            copyRow(other.weights, weights, MOST_EDGES);
            copyRow(other.nodeRow, nodeRow, MOST_NODES * NODE_PARTS);
            copyRow(other.ends, ends, MOST_WAYS);
            copyRow(other.letterRow, letterRow, other.letters * LETTER_PARTS);
            copyRow(other.firstOn, firstOn, MOST_WAYS);
            copyRow(other.lastOn, lastOn, MOST_WAYS);
            copyRow(other.onEach, onEach, MOST_WAYS);
            copyRow(other.waiting, waiting, other.waitingCount);
            copyRow(other.sentOf, sentOf, KINDS);
            letters = other.letters;
            onWays = other.onWays;
            waitingCount = other.waitingCount;
            handled = other.handled;
            deferrals = other.deferrals;
            deepest = other.deepest;
            roundCount = other.roundCount;
        }

        void renew() {
            copyRow(graph.toldWeights, weights, MOST_EDGES);
            layToSleep();
        }

        void layToSleep() {
            fillRow(nodeRow, 0);
            for (int n = 0; n < MOST_NODES; n++) {
                for (int part = NAME; part <= TESTED; part++) {
                    note(n, part, NONE);
                }
            }
            fillRow(ends, BASIC);
            fillRow(firstOn, NONE);
            fillRow(lastOn, NONE);
            fillRow(onEach, 0);
            fillRow(sentOf, 0);
            letters = 0;
            onWays = 0;
            waitingCount = 0;
            handled = 0;
            deferrals = 0;
            deepest = 0;
            roundCount = 0;
        }

        int of(int n, int part) {
            return at(nodeRow, n * NODE_PARTS + part);
        }

        void note(int n, int part, int value) {
            put(nodeRow, n * NODE_PARTS + part, value);
        }

        int told(int k, int part) {
            return at(letterRow, k * LETTER_PARTS + part);
        }

        void noteLetter(int k, int part, int value) {
            put(letterRow, k * LETTER_PARTS + part, value);
        }

        int weightOf(int e) {
            return at(weights, e);
        }

        int wayCount() {
            return 2 * graph.edges;
        }

        /** Each edge is lighter than none; none is lighter than nothing. */
        boolean lighter(int e, int f) {
            if (e < 0 || e >= weights.length) {
                return false;
            }
            if (f < 0 || f >= weights.length) {
                return true;
            }
            return weights[e] < weights[f] || weights[e] == weights[f] && e < f;
        }

        int awake() {
            int count = 0;
            for (int n = 0; n < graph.nodes; n++) {
                count += of(n, STATE) == ASLEEP ? 0 : 1;
            }
            return count;
        }

        int halted() {
            int count = 0;
            for (int n = 0; n < graph.nodes; n++) {
                count += of(n, HALTED);
            }
            return count;
        }

        int highestLevel() {
            int highest = 0;
            for (int n = 0; n < graph.nodes; n++) {
                highest = Math.max(highest, of(n, LEVEL));
            }
            return highest;
        }

        int busyWays() {
            int count = 0;
            for (int way = 0; way < wayCount(); way++) {
                count += at(onEach, way) > 0 ? 1 : 0;
            }
            return count;
        }

        int busyWay(int k) {
            int ahead = k;
            for (int way = 0; way < wayCount(); way++) {
                if (at(onEach, way) > 0) {
                    if (ahead == 0) {
                        return way;
                    }
                    ahead--;
                }
            }
            return NONE;
        }

        int waitingAt(int n, int k) {
            int ahead = k;
            for (int i = 0; i < waitingCount; i++) {
                if (nodeOf(at(waiting, i)) == n) {
                    if (ahead == 0) {
                        return at(waiting, i);
                    }
                    ahead--;
                }
            }
            return NONE;
        }

        private int nodeOf(int k) {
            return graph.receiverOn(told(k, L_WAY));
        }

        int makeRound() {
            copyRow(onEach, atBeginning, MOST_WAYS);
            int taken = 0;
            for (int way = 0; way < wayCount(); way++) {
                for (int i = 0; i < at(atBeginning, way); i++) {
                    receive(way);
                    taken++;
                }
            }
            roundCount++;
            return taken;
        }

        boolean rouse(int n) {
            if (of(n, STATE) != ASLEEP) {
                return false;
            }
            note(n, STATE, FOUND);
            int e = lightestBasic(n);
            if (e == NONE) {
                note(n, HALTED, 1);
            } else {
                put(ends, graph.wayFrom(n, e), BRANCH);
                send(graph.wayFrom(n, e), CONNECT, 0, NONE, NONE);
            }
            return true;
        }

        /** One who is asleep has basic edges alone, so that this is the lightest of all of them, too. */
        private int lightestBasic(int n) {
            int best = NONE;
            for (int way = 0; way < 2 * graph.edges; way++) {
                if (at(graph.senders, way) == n && at(ends, way) == BASIC && lighter(way / 2, best)) {
                    best = way / 2;
                }
            }
            return best;
        }

        /** A letter's row is written here place by place, so that calls don't go too deep. */
        private void send(int way, int kind, int level, int told, int state) {
            if (letters >= MOST_LETTERS || way < 0 || way >= MOST_WAYS) {
                return;
            }
            int row = letters * LETTER_PARTS;
            int depth = at(nodeRow, at(graph.senders, way) * NODE_PARTS + CLOCK) + 1;
            put(letterRow, row + L_KIND, kind);
            put(letterRow, row + L_WAY, way);
            put(letterRow, row + L_LEVEL, level);
            put(letterRow, row + L_TOLD, told);
            put(letterRow, row + L_STATE, state);
            put(letterRow, row + L_WHERE, ON_WAY);
            put(letterRow, row + L_DEPTH, depth);
            put(letterRow, row + L_AFTER, NONE);
            if (at(onEach, way) == 0) {
                put(firstOn, way, letters);
            } else {
                put(letterRow, at(lastOn, way) * LETTER_PARTS + L_AFTER, letters);
            }
            put(lastOn, way, letters);
            put(onEach, way, at(onEach, way) + 1);
            put(sentOf, kind, at(sentOf, kind) + 1);
            deepest = Math.max(deepest, depth);
            letters++;
            onWays++;
        }

        private int pullFrom(int way) {
            if (way < 0 || way >= wayCount() || at(onEach, way) == 0) {
                return NONE;
            }
            int k = at(firstOn, way);
            put(firstOn, way, told(k, L_AFTER));
            put(onEach, way, at(onEach, way) - 1);
            onWays--;
            return k;
        }

        /** Takes the first letter of a way: 0 handled, else why it is deferred. */
        int receive(int way) {
            int k = pullFrom(way);
            if (k == NONE) {
                return NONE;
            }
            int n = graph.receiverOn(way);
            if (told(k, L_KIND) == CONNECT || told(k, L_KIND) == TEST) {
                rouse(n);
            }
            if (!ready(k, n)) {
                defer(k, n);
                return whyOf(told(k, L_KIND));
            }
            handle(k, n);
            for (int i = 0; i < MOST_LETTERS; i++) {
                int freed = pullReady(n);
                if (freed == NONE) {
                    break;
                }
                handle(freed, n);
            }
            return 0;
        }

        private void defer(int k, int n) {
            put(waiting, waitingCount, k);
            waitingCount++;
            deferrals++;
            noteLetter(k, L_WHERE, DEFERRED);
            note(n, WAITING, of(n, WAITING) + 1);
        }

        private int pullReady(int n) {
            for (int i = 0; i < waitingCount; i++) {
                int k = at(waiting, i);
                if (nodeOf(k) == n && ready(k, n)) {
                    for (int j = i + 1; j < waitingCount; j++) {
                        put(waiting, j - 1, at(waiting, j));
                    }
                    waitingCount--;
                    note(n, WAITING, of(n, WAITING) - 1);
                    return k;
                }
            }
            return NONE;
        }

        private boolean ready(int k, int n) {
            int back = told(k, L_WAY) ^ 1;
            switch (told(k, L_KIND)) {
                case CONNECT:
                    return told(k, L_LEVEL) < of(n, LEVEL) || at(ends, back) != BASIC;
                case TEST:
                    return told(k, L_LEVEL) <= of(n, LEVEL);
                case REPORT:
                    return of(n, INWARD) != back / 2 || of(n, STATE) != FINDING;
                default:
                    return true;
            }
        }

        /** The way back over the letter's edge is also where that edge's END at this node is kept. */
        private void handle(int k, int n) {
            noteLetter(k, L_WHERE, HANDLED);
            handled++;
            note(n, CLOCK, Math.max(of(n, CLOCK), told(k, L_DEPTH)));
            int back = told(k, L_WAY) ^ 1;
            int then = CHANGES;
            switch (told(k, L_KIND)) {
                case CONNECT:
                    then = onConnect(k, n, back);
                    break;
                case BEGIN:
                    then = onBegin(k, n, back);
                    break;
                case TEST:
                    then = onTest(k, n, back);
                    break;
                case ACCEPT:
                    then = onAccept(n, back / 2);
                    break;
                case REJECT:
                    then = onReject(back);
                    break;
                case REPORT:
                    then = onReport(n, back / 2, told(k, L_TOLD));
                    break;
                default:
                    break;
            }
            if (then == TESTS) {
                then = ask(n);
            }
            if (then == SUMS_UP) {
                sumUp(n);
            } else if (then == CHANGES) {
                passOn(n);
            }
        }

        private int onConnect(int k, int n, int back) {
            if (told(k, L_LEVEL) < of(n, LEVEL)) {
                put(ends, back, BRANCH);
                send(back, BEGIN, of(n, LEVEL), of(n, NAME), of(n, STATE));
                if (of(n, STATE) == FINDING) {
                    note(n, EXPECTS, of(n, EXPECTS) + 1);
                }
            } else {
                send(back, BEGIN, of(n, LEVEL) + 1, back / 2, FINDING);
            }
            return NOTHING;
        }

        private int onBegin(int k, int n, int back) {
            boolean finding = told(k, L_STATE) == FINDING;
            note(n, LEVEL, told(k, L_LEVEL));
            note(n, NAME, told(k, L_TOLD));
            note(n, STATE, told(k, L_STATE));
            note(n, INWARD, back / 2);
            note(n, TOWARD, NONE);
            note(n, BEST, NONE);
            for (int way = 0; way < wayCount(); way++) {
                if (way != back && at(graph.senders, way) == n && at(ends, way) == BRANCH) {
                    send(way, BEGIN, told(k, L_LEVEL), told(k, L_TOLD), told(k, L_STATE));
                    note(n, EXPECTS, of(n, EXPECTS) + (finding ? 1 : 0));
                }
            }
            return finding ? TESTS : NOTHING;
        }

        private int onTest(int k, int n, int back) {
            if (told(k, L_TOLD) != of(n, NAME)) {
                send(back, ACCEPT, NONE, NONE, NONE);
                return NOTHING;
            }
            onReject(back);
            if (of(n, TESTED) == back / 2) {
                return TESTS;
            }
            send(back, REJECT, NONE, NONE, NONE);
            return NOTHING;
        }

        private int onAccept(int n, int e) {
            note(n, TESTED, NONE);
            if (lighter(e, of(n, BEST))) {
                note(n, BEST, e);
                note(n, TOWARD, e);
            }
            return SUMS_UP;
        }

        private int onReject(int back) {
            if (at(ends, back) == BASIC) {
                put(ends, back, REJECTED);
            }
            return TESTS;
        }

        private int onReport(int n, int e, int w) {
            if (of(n, INWARD) != e) {
                note(n, EXPECTS, of(n, EXPECTS) - 1);
                if (lighter(w, of(n, BEST))) {
                    note(n, BEST, w);
                    note(n, TOWARD, e);
                }
                return SUMS_UP;
            }
            if (lighter(of(n, BEST), w)) {
                return CHANGES;
            }
            if (w == NONE && of(n, BEST) == NONE) {
                note(n, HALTED, 1);
            }
            return NOTHING;
        }

        private int ask(int n) {
            int e = lightestBasic(n);
            note(n, TESTED, e);
            if (e == NONE) {
                return SUMS_UP;
            }
            send(graph.wayFrom(n, e), TEST, of(n, LEVEL), of(n, NAME), NONE);
            return NOTHING;
        }

        private void sumUp(int n) {
            if (of(n, EXPECTS) == 0 && of(n, TESTED) == NONE && of(n, INWARD) != NONE) {
                note(n, STATE, FOUND);
                send(graph.wayFrom(n, of(n, INWARD)), REPORT, NONE, of(n, BEST), NONE);
            }
        }

        private void passOn(int n) {
            int e = of(n, TOWARD);
            if (e == NONE) {
                return;
            }
            int way = graph.wayFrom(n, e);
            if (at(ends, way) == BRANCH) {
                send(way, CHANGE, NONE, NONE, NONE);
            } else {
                send(way, CONNECT, of(n, LEVEL), NONE, NONE);
                put(ends, way, BRANCH);
            }
        }
    }

    /** Parts of nodes that are joined: by edges in order, for the least tree, or by branches. */
    private static final class Forest {
        final Net graph;
        final int[] inOrder = new int[MOST_EDGES];
        final int[] part = new int[MOST_NODES];
        int total;
        int bits;
        int parts;

        Forest(Net graph) {
            this.graph = graph;
        }

        private void scatter() {
            for (int n = 0; n < part.length; n++) {
                part[n] = n;
            }
            parts = graph.nodes;
        }

        /** A part bears the number of its least node. */
        private boolean join(int e) {
            int a = partOf(graph.firstOf(e));
            int b = partOf(graph.secondOf(e));
            if (a == b) {
                return false;
            }
            int stays = Math.min(a, b);
            int goes = Math.max(a, b);
            for (int n = 0; n < part.length; n++) {
                if (part[n] == goes) {
                    part[n] = stays;
                }
            }
            parts--;
            return true;
        }

        int partOf(int n) {
            return at(part, n);
        }

        private void sortEdges(Run run) {
            for (int e = 0; e < graph.edges; e++) {
                int place = e;
                while (place > 0 && run.lighter(e, at(inOrder, place - 1))) {
                    put(inOrder, place, at(inOrder, place - 1));
                    place--;
                }
                put(inOrder, place, e);
            }
        }

        void growTree(Run run) {
            sortEdges(run);
            scatter();
            total = 0;
            bits = 0;
            for (int i = 0; i < graph.edges; i++) {
                int e = at(inOrder, i);
                if (join(e)) {
                    total += run.weightOf(e);
                    bits |= 1 << e;
                }
            }
        }

        /**
         * The edge by which two nodes come together when edges join parts in order, one edge left out: it is
         * the heaviest one between them in the least tree of the edges that are not left out.
         */
        int joiner(Run run, int a, int b, int without) {
            sortEdges(run);
            scatter();
            for (int i = 0; i < graph.edges; i++) {
                int e = at(inOrder, i);
                if (e != without && join(e) && partOf(a) == partOf(b)) {
                    return e;
                }
            }
            return NONE;
        }

        boolean inTree(Run run, int e) {
            return joiner(run, graph.firstOf(e), graph.secondOf(e), NONE) == e;
        }

        int slackOf(Run run, int e) {
            int other = joiner(run, graph.firstOf(e), graph.secondOf(e), e);
            if (other == NONE) {
                return NONE;
            }
            int gap = run.weightOf(other) - run.weightOf(e);
            // At like weights the edge is in the tree if its number is the lower one.
            int last = e < other ? gap : gap - 1;
            return run.lighter(e, other) ? last : -last;
        }

        private boolean isBranch(Run run, int e) {
            return at(run.ends, 2 * e) == BRANCH && at(run.ends, 2 * e + 1) == BRANCH;
        }

        int fragments(Run run) {
            scatter();
            for (int e = 0; e < graph.edges; e++) {
                if (isBranch(run, e)) {
                    join(e);
                }
            }
            return parts;
        }

        int nodeBits(int least) {
            int found = 0;
            for (int n = 0; n < graph.nodes; n++) {
                found |= partOf(n) == least ? 1 << n : 0;
            }
            return found;
        }

        int branchBits(Run run, int least) {
            int found = 0;
            for (int e = 0; e < graph.edges; e++) {
                if (isBranch(run, e) && partOf(graph.firstOf(e)) == least) {
                    found |= 1 << e;
                }
            }
            return found;
        }

        int highestLevel(Run run, int least) {
            int highest = 0;
            for (int n = 0; n < graph.nodes; n++) {
                if (partOf(n) == least) {
                    highest = Math.max(highest, run.of(n, LEVEL));
                }
            }
            return highest;
        }

        int lightestOut(Run run, int least) {
            int best = NONE;
            for (int e = 0; e < graph.edges; e++) {
                boolean first = partOf(graph.firstOf(e)) == least;
                boolean second = partOf(graph.secondOf(e)) == least;
                if (first != second && run.lighter(e, best)) {
                    best = e;
                }
            }
            return best;
        }
    }

    /** A letter as a text. */
    private static final class Spelling {
        final byte[] signs = new byte[64];
        int length;

        int signAt(int i) {
            return i >= 0 && i < length && i < signs.length ? signs[i] : NONE;
        }

        void write(Run run, Net graph, int k) {
            length = 0;
            int way = run.told(k, L_WAY);
            int kind = run.told(k, L_KIND);
            addName(graph, graph.senderOn(way));
            addSign('>');
            addName(graph, graph.receiverOn(way));
            addSign(' ');
            addWord(wordOf(kind));
            if (kind == CONNECT || kind == BEGIN || kind == TEST) {
                addNumber(run.told(k, L_LEVEL));
            }
            if (kind == BEGIN || kind == TEST || kind == REPORT) {
                addNumber(run.told(k, L_TOLD));
            }
            if (kind == BEGIN) {
                addNumber(run.told(k, L_STATE));
            }
        }

        private void addSign(int sign) {
            if (length >= 0 && length < signs.length) {
                signs[length] = (byte) sign;
                length++;
            }
        }

        private void addName(Net graph, int n) {
            for (int i = 0; i < at(graph.nameLengths, n) && i < MOST_NAME; i++) {
                addSign(graph.nameSign(n, i));
            }
        }

        private void addWord(String word) {
            for (int i = 0; i < word.length(); i++) {
                addSign(word.charAt(i));
            }
        }

        private void addNumber(int number) {
            addSign(' ');
            if (number == NONE) {
                addSign('-');
                return;
            }
            if (number >= 10) {
                addSign('0' + number / 10 % 10);
            }
            addSign('0' + number % 10);
        }
    }

    /** A place for an image: the net, the rule and the run as they were. */
    private static final class Image {
        final Net graph;
        final Rule order;
        final Run run;
        boolean full;

        Image() {
            graph = new Net();
            order = new Rule();
            run = new Run(graph);
        }
    }
}
