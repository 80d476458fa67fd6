/** The bounds of part 1 of the terms and of promises 1 to 6 and 38: the last that is taken, the first that is refused. */
public final class BoundsOfTextsTest {
    static final String TWO = "node a;node b;";
    static final String JOINED = "node a;node b;edge a b ";
    static final String WORDS = "node edge late any connect begin test accept reject report change from to level over old new light heavy low high";
    static final String[] PATTERNS = {"any", "connect", "begin", "test", "accept", "reject", "report", "change"};
    static final String[] SORTS = {"old", "new", "light", "heavy", "low", "high"};
    static final String[] CONDS = {"from a", "to b", "level 9", "over 99"};

    public static void main(String[] args) {
        wordsHaveOneToSevenLetters();
        numbersHaveOneOrTwoDigits();
        blanksAreTwoBytesAlone();
        blanksOrNot();
        wordsAndNumbersGoOn();
        aNetHasAtMost900Bytes();
        tokensAheadOf900AreReadWhole();
        tokensFrom900OnAreNotRead();
        aRuleHasAtMost300Bytes();
        textsCanEndAnywhere();
        netLines();
        weights();
        unlikeAndOnce();
        names();
        twelveNodes();
        thirtyEdges();
        numberedAsTold();
        tenLines();
        fourConds();
        condNumbers();
        condNodes();
        lateStandsAheadOfPatterns();
        sortsHaveNoConds();
        theFirstFault();
        theTape();
        theTapesEnd();
        theNetStays();
        theRuleStays();
        aNewNet();
        latestFault();
        counts();
        Check.close();
    }

    static String blanks(int n) { return " ".repeat(n); }

    /** A text with blanks so that its end, what stands behind them, begins at a place. */
    static String upTo(String head, int place, String end) { return head + blanks(place - head.length()) + end; }

    static void wordsHaveOneToSevenLetters() {
        Check.of("WORDS: small letters, 1 to 7");
        Check.netTaken("node a;", 1);
        Check.netTaken("node z;", 1);
        Check.netTaken("node azazaza;", 1);
        Check.netFault("node azazazaz;", 1, 5, 0);
        Check.netFault("node az1;", 1, 5, 0);
        for (char c : new char[] {'a' - 1, 'z' + 1, 'A', 'Z', '_', '-', 0, 127, 128, 225, 250, 255}) {
            Check.netFault("node " + c + ";", 1, 5, 0);
            Check.netFault("node a" + c + ";", 1, 6, 0);
        }
        AskingFragments x = Check.with("node abcdefg;node hijklmn;node opqrstu;node vwxyz;edge abcdefg hijklmn 1;edge opqrstu vwxyz 1;");
        x.wake(0);
        x.wake(3);
        Check.spelled(x, 0, "abcdefg>hijklmn connect 0");
        Check.spelled(x, 1, "vwxyz>opqrstu connect 0");
    }

    static void numbersHaveOneOrTwoDigits() {
        Check.of("NUMBERS: 1 to 2 digits");
        for (int w = 1; w <= 99; w++) {
            AskingFragments x = Check.with(JOINED + w + ";");
            Check.is("weight", x.edge(0, 2), w);
            if (w < 10) Check.is("with a 0 ahead", Check.net(x, JOINED + "0" + w + ";"), 3);
            Check.is("weight", x.edge(0, 2), w);
        }
        for (String w : new String[] {"001", "100", "999", "0000000001", "4294967297"}) Check.netFault(JOINED + w + ";", 1, 23, 2);
        for (char c : new char[] {'0' - 1, '9' + 1, '-', '+', '.', 178, 185}) {
            Check.netFault(JOINED + c + ";", 1, 23, 2);
            Check.netFault(JOINED + "5" + c + ";", 1, 24, 2);
        }
    }

    static void blanksAreTwoBytesAlone() {
        Check.of("blanks (32, 10); the sign ;");
        for (int v = 0; v < 256; v++) {
            char c = (char) v;
            boolean small = c >= 'a' && c <= 'z';
            boolean digit = c >= '0' && c <= '9';
            if (c == ' ' || c == '\n') {
                Check.netTaken(c + "node" + c + "a" + c + ";" + c, 1);
                continue;
            }
            Check.netFault("node" + c + "a;", 1, small || digit ? 0 : 4, 0);
            Check.netFault(c + " node a;", 1, 0, 0);
            Check.netFault("node a;" + c, 1, 7, 1);
            if (small) Check.netTaken("node a" + c + ";", 1);
            else Check.netFault("node a" + c + ";", 1, c == ';' ? 7 : digit ? 5 : 6, c == ';' ? 1 : 0);
            if (c != ';') Check.netFault("node a" + c, 1, small ? 7 : digit ? 5 : 6, 0);
        }
    }

    static void blanksOrNot() {
        Check.of("with blanks between them or not");
        Check.netTaken("node a;node b;edge a b 1;", 3);
        Check.netTaken(" \n node\na \n;\n\nnode  b;edge\na\nb\n1\n;\n", 3);
        Check.netTaken("", 0);
        Check.netTaken(" ", 0);
        Check.netTaken("\n", 0);
        Check.netTaken(blanks(900), 0);
        Check.ruleTaken("old;any;late any from a to b;", 3);
        Check.ruleTaken("\n old\n; any ;\nlate\nany\nfrom\na\nto\nb\n;\n", 3);
        Check.ruleTaken("", 0);
        Check.ruleTaken(blanks(300), 0);
    }

    static void wordsAndNumbersGoOn() {
        Check.of("A WORD, NUMBER goes on as long as small letters and digits do; what is not as told is no TOKEN");
        Check.netFault("nodea;", 1, 0, 0);
        Check.netFault("node1;", 1, 0, 0);
        Check.netFault("node a1;", 1, 5, 0);
        Check.netFault("node 1a;", 1, 5, 0);
        Check.netFault("node abcdefg1;", 1, 5, 0);
        Check.netFault("node 1abcdef;", 1, 5, 0);
        Check.netFault(JOINED + "5a;", 1, 23, 2);
        Check.netFault(JOINED + "a5;", 1, 23, 2);
        Check.netFault(TWO + "edge a b5;", 1, 21, 2);
        Check.netFault(TWO + "edge ab 5;", 3, 19, 2);
        Check.ruleFault("any level1;", 1, 4, 0);
        Check.ruleFault("any level 1 over1;", 1, 12, 0);
        Check.ruleFault("any from a1;", 1, 9, 0);
        Check.ruleFault("lateany;", 1, 0, 0);
        Check.ruleFault("anyfrom a;", 1, 0, 0);
        Check.ruleFault("any over 1to a;", 1, 9, 0);
    }

    static void aNetHasAtMost900Bytes() {
        Check.of("A NET is a text of at most 900 bytes; the most bytes told, if there are more and no FAULT is ahead");
        Check.netTaken(upTo("node a;", 899, "\n"), 1);
        Check.netTaken(upTo("node a;", 893, "node b;"), 2);
        Check.netTaken(upTo("node a", 899, ";"), 1);
        Check.netFault(upTo("node a;", 900, " "), 1, 900, 1);
        Check.netFault(blanks(901), 1, 900, 0);
        Check.netFault(blanks(940), 1, 900, 0);
        Check.netFault(upTo("node a;", 894, "node b;"), 1, 900, 1);
        Check.netFault(upTo("node a;", 893, "node b; "), 1, 900, 2);
        Check.netFault(upTo("node a", 900, ";"), 1, 900, 0);
        // A FAULT ahead of the most bytes goes first, whatever comes behind.
        Check.netFault(upTo("node a;", 899, "??"), 1, 899, 1);
        Check.netFault(upTo("node a;?", 940, ""), 1, 7, 1);
        Check.netFault(upTo("node a;node a;", 940, ""), 3, 12, 1);
    }

    static void tokensAheadOf900AreReadWhole() {
        Check.of("TOKENS that begin ahead of it are read whole");
        Check.netFault(upTo("node bc;node", 899, "bc;"), 3, 899, 1);
        Check.netFault(upTo("node bc;node", 899, "bd;"), 1, 900, 1);
        Check.netFault(upTo("node b;node", 899, "bc;"), 1, 900, 1);
        Check.netFault(upTo("node", 899, "abcdefg;"), 1, 900, 0);
        Check.netFault(upTo("node", 899, "abcdefgh;"), 1, 899, 0);
        Check.netFault(upTo("node", 893, "abcdefgh;"), 1, 893, 0);
        Check.netFault(upTo(JOINED, 899, "10;"), 1, 900, 2);
        Check.netFault(upTo(JOINED, 899, "00;"), 2, 899, 2);
        Check.netFault(upTo(JOINED, 899, "100;"), 1, 899, 2);
        Check.netFault(upTo("node a;", 899, "node b;"), 1, 900, 1);
        Check.netFault(upTo("node a;", 899, "nod;"), 1, 899, 1);
        Check.netFault(upTo(TWO + "edge a", 899, "bb 5;"), 3, 899, 2);
        Check.netFault(upTo("", 899, "node"), 1, 900, 0);
    }

    static void tokensFrom900OnAreNotRead() {
        Check.of("the most bytes told: what begins there can't be");
        Check.netFault(upTo("node a;node", 900, "a;"), 1, 900, 1);
        Check.netFault(upTo("node a;node", 899, "a;"), 3, 899, 1);
        Check.netFault(upTo(JOINED, 900, "0;"), 1, 900, 2);
        Check.netFault(upTo(JOINED, 899, "0;"), 2, 899, 2);
        Check.netFault(upTo(nodes(12), 900, "node x;"), 1, 900, 12);
        Check.netFault(upTo(nodes(12), 899, "node x;"), 4, 899, 12);
        Check.netFault(upTo("node a;edge a", 900, "a 1;"), 1, 900, 1);
        Check.netFault(upTo("node a;edge a", 899, "a 1;"), 3, 899, 1);
        Check.ruleFault(upTo("any from", 300, "c;"), 1, 300, 0);
        Check.ruleFault(upTo("any from", 299, "c;"), 3, 299, 0);
        Check.ruleFault(upTo("any level", 300, "10;"), 1, 300, 0);
        Check.ruleFault(upTo("any level", 299, "10;"), 2, 299, 0);
        Check.ruleFault(upTo("old;".repeat(10), 300, "new;"), 1, 300, 10);
        Check.ruleFault(upTo("old;".repeat(10), 299, "new;"), 4, 299, 10);
    }

    static void aRuleHasAtMost300Bytes() {
        Check.of("A RULE is a text of at most 300 bytes");
        Check.ruleTaken(upTo("old;", 300, ""), 1);
        Check.ruleTaken(upTo("old;", 296, "new;"), 2);
        Check.ruleTaken(upTo("any", 299, ";"), 1);
        Check.ruleFault(upTo("old;", 301, ""), 1, 300, 1);
        Check.ruleFault(upTo("old;", 940, ""), 1, 300, 1);
        Check.ruleFault(upTo("old;", 297, "new;"), 1, 300, 1);
        Check.ruleFault(upTo("any", 300, ";"), 1, 300, 0);
        Check.ruleFault(upTo("old;", 299, "??"), 1, 299, 1);
        Check.ruleFault(upTo("any over", 299, "99;"), 1, 300, 0);
        Check.ruleFault(upTo("any over", 299, "00;"), 2, 299, 0);
        Check.ruleFault(upTo("any from", 299, "ab;"), 3, 299, 0);
        Check.ruleFault(upTo("late", 299, "any;"), 1, 300, 0);
        Check.ruleFault(upTo("late", 299, "old;"), 1, 299, 0);
        Check.is("900 bytes are a NET, no RULE", Check.net(new AskingFragments(), upTo("node a;", 900, "")), 1);
    }

    static void textsCanEndAnywhere() {
        Check.of("the end: how many bytes there are");
        String net = "node a;node b;edge a b 10;";
        for (int n = 0; n < net.length(); n++) {
            int lines = n >= 14 ? 2 : n >= 7 ? 1 : 0;
            String text = net.substring(0, n);
            boolean cutWord = n >= 1 && n <= 3 || n >= 8 && n <= 10 || n >= 15 && n <= 17;
            if (n == 0 || n == 7 || n == 14) Check.netTaken(text, lines);
            else Check.netFault(text, 1, cutWord ? lines * 7 : n, lines);
            if (n == 0 || n == 7 || n == 14) Check.netTaken(text + " \n", lines);
            else Check.netFault(text + " \n", 1, cutWord ? lines * 7 : n + 2, lines);
        }
        Check.netFault(upTo("node a", 900, ""), 1, 900, 0);
        Check.netFault(upTo("node a", 899, ""), 1, 899, 0);
        String rule = "late any from a level 3;";
        for (int n : new int[] {4, 8, 13, 15, 21, 23}) Check.ruleFault("old;" + rule.substring(0, n), 1, 4 + n, 1);
        Check.ruleFault("old", 1, 3, 0);
        Check.ruleFault("old ", 1, 4, 0);
    }

    static void netLines() {
        Check.of("LINE: 'node' NAME | 'edge' NODE NODE W");
        for (String word : WORDS.split(" ")) if (!word.equals("node") && !word.equals("edge")) Check.netFault("node a;" + word + " a;", 1, 7, 1);
        for (String first : new String[] {";", "5", "a", "nodes", "nod", "edges", "edg"}) Check.netFault("node b;" + first, 1, 7, 1);
        for (String name : new String[] {";", "5", "?"}) Check.netFault("node " + name + ";", 1, 5, 0);
        for (String more : new String[] {"b", "5", "node", "?"}) Check.netFault("node a " + more + ";", 1, 7, 0);
        for (String node : new String[] {";", "5", "?", "edge"}) {
            Check.netFault(TWO + "edge " + node + " b 1;", 1, 19, 2);
            Check.netFault(TWO + "edge a " + node + " 1;", 1, 21, 2);
        }
        for (String weight : new String[] {";", "a", "?", "edge"}) Check.netFault(JOINED + weight + ";", 1, 23, 2);
        for (String more : new String[] {"b", "5", "node", "?"}) Check.netFault(JOINED + "1 " + more + ";", 1, 25, 2);
    }

    static void weights() {
        Check.of("its WEIGHT: 1 to 99; 2 a NUMBER that is not as told (at it)");
        for (String w : new String[] {"1", "01", "99", "9", "10"}) Check.netTaken(JOINED + w + ";", 3);
        Check.netFault(JOINED + "0;", 2, 23, 2);
        Check.netFault(JOINED + "00;", 2, 23, 2);
        Check.netFault(JOINED + " \n 0;", 2, 26, 2);
        Check.netFault(JOINED + "100;", 1, 23, 2);
    }

    static void unlikeAndOnce() {
        Check.of("unlike; each two once, whichever first; the second of two NODES that are alike, or have an EDGE (at it)");
        Check.netFault("node a;edge a a 1;", 3, 14, 1);
        Check.netFault(TWO + "edge b b 1;", 3, 21, 2);
        Check.netFault(TWO + "edge b  b 0;", 3, 22, 2);
        Check.netFault(JOINED + "1;edge a b 1;", 3, 32, 3);
        Check.netFault(JOINED + "1;edge b a 1;", 3, 32, 3);
        Check.netFault("node a;node b;node c;edge b c 1;edge a b 2;edge c b 3;", 3, 50, 5);
        Check.netTaken("node a;node b;node c;edge b c 1;edge a b 2;edge c a 3;", 6);
    }

    static void names() {
        Check.of("NAME: a WORD, none of those told here or in a RULE");
        for (String word : WORDS.split(" ")) {
            Check.netFault("node " + word + ";", 1, 5, 0);
            Check.netFault("node " + word, 1, 5, 0);
            Check.netTaken("node " + word.substring(0, word.length() - 1) + ";", 1);
            Check.netTaken("node " + word.substring(1) + ";", 1);
            if (word.length() < 7) Check.netTaken("node " + word + "s;", 1);
            if (word.length() < 7) Check.netTaken("node a" + word + ";", 1);
        }
        Check.of("told once; 3 a NAME told twice, or not told (at it)");
        Check.netFault("node a;node a;", 3, 12, 1);
        Check.netFault("node abcdefg;node b;node abcdefg;", 3, 25, 2);
        Check.netFault("node a;node a", 3, 12, 1);
        Check.netTaken("node abcdefg;node abcdefh;node abcdef;node bcdefg;", 4);
        Check.netTaken("node a;node aa;node aaa;", 3);
        Check.netFault("node aa;edge a aa 1;", 3, 13, 1);
        Check.netFault("node a;edge a aa 1;", 3, 14, 1);
        Check.netFault("node a;edge a b 1;node b;", 3, 14, 1);
        Check.netFault("edge a b 1;", 3, 5, 0);
    }

    static String nodes(int n) {
        StringBuilder b = new StringBuilder();
        for (int i = 0; i < n; i++) b.append("node ").append((char) ('a' + i)).append(';');
        return b.toString();
    }

    static String edges(int n) {
        StringBuilder b = new StringBuilder();
        int told = 0;
        for (int i = 0; i < 12; i++) {
            for (int j = 0; j < i && told < n; j++) {
                b.append("edge ").append((char) ('a' + i)).append(' ').append((char) ('a' + j)).append(" 5;");
                told++;
            }
        }
        return b.toString();
    }

    static void twelveNodes() {
        Check.of("12 NODES at most; 4 one more than there may be of a sort (at the LINE's first WORD)");
        Check.netTaken(nodes(11), 11);
        Check.netTaken(nodes(12), 12);
        Check.is("12 are there", Check.with(nodes(12)).count(0), 12);
        Check.netFault(nodes(13), 4, 84, 12);
        for (String thirteenth : new String[] {"node", "node a;", "node node;", "node ?", "node 5", "node;"}) Check.netFault(nodes(12) + thirteenth, 4, 84, 12);
        Check.netFault(nodes(12) + "\n node x;", 4, 86, 12);
        Check.netFault(nodes(12) + edges(3) + "node x;", 4, 84 + 33, 15);
        Check.netFault(nodes(12) + "nod x;", 1, 84, 12);
        Check.netTaken(nodes(12) + "edge l a 1;", 13);
    }

    static void thirtyEdges() {
        Check.of("30 EDGES at most");
        Check.netTaken(nodes(12) + edges(29), 41);
        Check.netTaken(nodes(12) + edges(30), 42);
        AskingFragments x = Check.with(nodes(12) + edges(30));
        Check.is("30 are there", x.count(1), 30);
        Check.is("the last one's node", x.edge(29, 0), 8);
        Check.netFault(nodes(12) + edges(31), 4, 84 + 330, 42);
        for (String more : new String[] {"edge", "edge a a 1;", "edge b a 1;", "edge x", "edge ?", "edge;"}) Check.netFault(nodes(12) + edges(30) + more, 4, 84 + 330, 42);
        Check.netFault(nodes(11) + edges(30) + "edges", 1, 77 + 330, 41);
        Check.netTaken(nodes(11) + edges(30) + "node l;", 42);
    }

    static void numberedAsTold() {
        Check.of("numbered from 0 each as told");
        AskingFragments x = Check.with("node d;node c;edge d c 4;node b;edge b c 3;edge d b 2;node a;");
        int[][] want = {{0, 1, 4}, {2, 1, 3}, {0, 2, 2}};
        for (int e = 0; e < 3; e++) for (int w = 0; w < 3; w++) Check.is("edge(" + e + ", " + w + ")", x.edge(e, w), want[e][w]);
        x.wake(1);
        x.wake(0);
        Check.spelled(x, 0, "c>b connect 0");
        Check.spelled(x, 1, "d>b connect 0");
    }

    static void tenLines() {
        Check.of("10 LINES at most; an 11th LINE of a RULE (at the LINE's first WORD)");
        String nine = "old;".repeat(9);
        Check.ruleTaken(nine, 9);
        Check.ruleTaken(nine + "late any from a;", 10);
        for (String tenth : new String[] {"new;", "any;"}) {
            int place = 36 + tenth.length();
            for (String word : SORTS) Check.ruleFault(nine + tenth + word + ";", 4, place, 10);
            for (String word : PATTERNS) Check.ruleFault(nine + tenth + word + " from q;", 4, place, 10);
            for (String word : new String[] {"late", "late any;", "late old;", "late ?", "old any", "any"}) Check.ruleFault(nine + tenth + word, 4, place, 10);
            for (String word : new String[] {";", "5", "?", "node", "from a", "over 5", "a", "latee"}) Check.ruleFault(nine + tenth + word, 1, place, 10);
        }
        Check.ruleFault(nine + "any; \n new;", 4, 43, 10);
    }

    static void fourConds() {
        Check.of("COND, 4 at most; a fifth COND (at its WORD)");
        String three = "any from a to b level 9";
        Check.ruleTaken("any;", 1);
        Check.ruleTaken(three + ";", 1);
        for (String fourth : CONDS) {
            String four = three + " " + fourth;
            Check.ruleTaken(four + ";", 1);
            Check.ruleTaken("late " + four + ";" + four + ";", 2);
            for (String fifth : CONDS) Check.ruleFault(four + " " + fifth + ";", 4, four.length() + 1, 0);
            for (String fifth : new String[] {"from", "to q", "level 99", "over ?"}) Check.ruleFault("old;" + four + " " + fifth, 4, four.length() + 5, 1);
            for (String fifth : new String[] {"5", "?", "node", "old", "late", "a", "any"}) Check.ruleFault(four + " " + fifth, 1, four.length() + 1, 0);
        }
        Check.ruleTaken("any over 1 over 1 over 1 over 1;", 1);
    }

    static void condNumbers() {
        Check.of("'level' N (0 to 9)");
        for (String n : new String[] {"0", "00", "1", "9", "09"}) Check.ruleTaken("any level " + n + ";", 1);
        for (String n : new String[] {"10", "11", "99"}) Check.ruleFault("any level " + n + ";", 2, 10, 0);
        for (String n : new String[] {"100", "009", "a", ";", "?", "level"}) Check.ruleFault("any level " + n + ";", 1, 10, 0);
        Check.of("'over' N (1 to 99)");
        for (String n : new String[] {"1", "01", "9", "10", "99"}) Check.ruleTaken("any over " + n + ";", 1);
        for (String n : new String[] {"0", "00"}) Check.ruleFault("any over " + n + ";", 2, 9, 0);
        for (String n : new String[] {"100", "001", "a", ";", "?", "over"}) Check.ruleFault("any over " + n + ";", 1, 9, 0);
    }

    static void condNodes() {
        Check.of("'from' NODE | 'to' NODE");
        for (String cond : new String[] {"from", "to"}) {
            int place = 5 + cond.length();
            Check.ruleTaken("any " + cond + " a;", 1);
            Check.ruleTaken("any " + cond + " b;", 1);
            for (String node : new String[] {"c", "aa", "kept"}) Check.ruleFault("any " + cond + " " + node + ";", 3, place, 0);
            for (String node : new String[] {";", "1", "?", "from", "to", "any", "node", "abcdefgh"}) Check.ruleFault("any " + cond + " " + node + ";", 1, place, 0);
        }
        AskingFragments none = new AskingFragments();
        Check.is("without nodes none is told", Check.rule(none, "any from a;"), -10);
        Check.is("fault", none.fault(0), 3);
    }

    static void lateStandsAheadOfPatterns() {
        Check.of("[ 'late' ] PATTERN");
        for (String word : PATTERNS) {
            Check.ruleTaken(word + ";", 1);
            Check.ruleTaken("late " + word + ";", 1);
        }
        for (String word : SORTS) Check.ruleFault("late " + word + ";", 1, 5, 0);
        for (String word : new String[] {"late any", "from a", "node", "a", "5", "?"}) Check.ruleFault("late " + word + ";", 1, 5, 0);
        Check.ruleFault("late;", 1, 4, 0);
        Check.ruleFault("late", 1, 4, 0);
    }

    static void sortsHaveNoConds() {
        Check.of("'old' | 'new' | 'light' | 'heavy' | 'low' | 'high'");
        for (String word : SORTS) {
            Check.ruleTaken(word + ";", 1);
            for (String more : new String[] {"from a", "to b", "level 1", "over 1", "old", "any", "late", "5", "a"}) {
                Check.ruleFault(word + " " + more + ";", 1, word.length() + 1, 0);
            }
        }
        for (String word : new String[] {"node a", "edge a b 1", "from a", "to a", "level 1", "over 1", "a", "olds", "5"}) Check.ruleFault("new;" + word + ";", 1, 4, 1);
    }

    static void theFirstFault() {
        Check.of("the first along the text, of one TOKEN the least");
        Check.netFault("node a;node a;edge a b 0;", 3, 12, 1);
        Check.netFault("node a;edge q a 0;?", 3, 12, 1);
        Check.netFault("node a;edge a q 0;?", 3, 14, 1);
        Check.netFault("node a;edge q z 1;", 3, 12, 1);
        Check.netFault(JOINED + "0 ?", 2, 23, 2);
        Check.netFault("? node", 1, 0, 0);
        Check.ruleFault("any level 10 from q;", 2, 10, 0);
        Check.ruleFault("any from q level 10;", 3, 9, 0);
        Check.ruleFault("any over 5 5;", 1, 11, 0);
    }

    static void theTape() {
        Check.of("Twenty bytes come behind the tape, of each number the highest first: how many it has");
        AskingFragments x = new AskingFragments();
        Check.is("feed", x.feed(0x6e6f6465, 0x20616263, 0x64656667, 0x3b6e6f64, 0x6520623b), 20);
        Check.is("and behind it", x.feed(0x65646765, 0x20622061, 0x62636465, 0x66672039, 0x383b2020), 40);
        Check.is("net", x.net(), 3);
        Check.is("weight", x.edge(0, 2), 98);
        Check.is("first", x.edge(0, 0), 1);
        Check.is("bytes above 127 are bytes", x.feed(-1, Integer.MIN_VALUE, 0, 0, 0), 20);
        Check.is("no tokens", x.net(), -1);
        Check.of("NONE, and none come, if it would have more than 940");
        for (int i = 1; i <= 47; i++) Check.is("feed", x.feed(0x20202020, 0x20202020, 0x20202020, 0x20202020, 0x20202020), 20 * i);
        Check.stays(x, "feed at 940", () -> x.feed(0, 0, 0, 0, 0), -1);
        Check.is("end", x.end(939), true);
        Check.stays(x, "feed at 939", () -> x.feed(0, 0, 0, 0, 0), -1);
        Check.is("end", x.end(921), true);
        Check.stays(x, "feed at 921", () -> x.feed(0, 0, 0, 0, 0), -1);
        Check.is("none came: 921 blanks", x.net(), -901);
        Check.feed(x, blanks(920));
        Check.is("feed at 920", x.feed(0, 0, 0, 0, 0), 940);
        Check.is("end", x.end(900), true);
        Check.is("900 blanks", x.net(), 0);
        Check.is("room again", x.feed(0, 0, 0, 0, 0), 20);
    }

    static void theTapesEnd() {
        Check.of("The tape has its first n bytes alone: true; false, if it has not so many, or n is below 0");
        AskingFragments x = new AskingFragments();
        Check.is("end(0) of none", x.end(0), true);
        Check.is("end(1) of none", x.end(1), false);
        Check.feed(x, "node a;node b;node c");
        for (int n : Check.FAR) Check.stays(x, "end(" + n + ")", () -> x.end(n) ? 1 : 0, 0);
        Check.stays(x, "end(21)", () -> x.end(21) ? 1 : 0, 0);
        Check.stays(x, "end(20)", () -> x.end(20) ? 1 : 0, 1);
        Check.is("end(19)", x.end(19), true);
        Check.is("19", x.count(3), 19);
        Check.stays(x, "end(20) now", () -> x.end(20) ? 1 : 0, 0);
        Check.is("end(14)", x.end(14), true);
        Check.is("the first ones", x.net(), 2);
        Check.feed(x, "node a;");
        Check.is("end(0)", x.end(0), true);
        Check.is("nothing", x.net(), 0);
        Check.feed(x, "node a;??");
        Check.is("end(7)", x.end(7), true);
        Check.feed(x, "node b;");
        Check.is("what is fed comes behind the end", x.net(), 2);
    }

    static AskingFragments busy() {
        AskingFragments x = Check.with("node a;node b;node c;edge a b 1;edge b c 2;edge a c 3;");
        Check.rule(x, "late any from c;new;");
        x.weigh(1, 7);
        x.wake(2);
        x.wake(0);
        x.steps(3);
        x.next();
        x.spell(1);
        return x;
    }

    static void theNetStays() {
        Check.of("The tape (empty then, with a FAULT, too); -1 less the place of a FAULT: it stays");
        for (String text : new String[] {"?", "node a", "node q;node q;", "node a;node b;edge a b 0;", nodes(13)}) {
            AskingFragments x = busy();
            String before = Check.world(x);
            Check.is("a fault", Check.net(x, text) < 0, true);
            Check.is("tape", x.count(3), 0);
            Check.same("the net stays", Check.world(x), before);
            Check.is("undo stays", x.undo(), 3);
            Check.is("undo stays", x.undo() + x.undo() + x.undo(), 3);
            Check.is("undo stays", x.undo(), -1);
        }
        AskingFragments x = busy();
        String before = Check.world(x);
        Check.is("a rule's fault", Check.rule(x, "old;any from q;"), -14);
        Check.same("the net stays with a rule's fault, too", Check.world(x), before);
        Check.is("a rule", Check.rule(x, "late any from c;new;"), 2);
        Check.same("the net stays with a rule", Check.world(x), before);
        Check.is("undo stays", x.undo(), 3);
    }

    static void theRuleStays() {
        Check.of("The tape is the RULE now: how many LINES; -1 less the place of a FAULT: it stays");
        AskingFragments x = Check.with("node a;node b;node c;edge a b 1;edge b c 2;edge a c 3;");
        for (int n = 0; n < 3; n++) x.wake(n);
        Check.is("without lines: the least way", x.choice(), 0);
        Check.is("rule", Check.rule(x, "any from c;"), 1);
        Check.is("choice", x.choice(), 3);
        for (String text : new String[] {"?", "any from b", "any from b;any from q;", "old;new;late", "any from b;any level 10;"}) {
            Check.is("a fault", Check.rule(x, text) < 0, true);
            Check.is("tape", x.count(3), 0);
            Check.is("it stays", x.count(2), 1);
            Check.is("it stays", x.choice(), 3);
        }
        Check.is("another", Check.rule(x, "any from b;"), 1);
        Check.is("choice", x.choice(), 1);
        Check.is("without lines", Check.rule(x, " "), 0);
        Check.is("the least way", x.choice(), 0);
    }

    static void aNewNet() {
        Check.of("A new NET: all are ASLEEP, there is no LETTER, the RULE has no LINES, nothing can be undone");
        String text = "node a;node b;node c;edge a c 4;edge b c 5;";
        AskingFragments x = busy();
        Check.is("net", Check.net(x, text), 5);
        Check.same("as on a new object", Check.world(x), Check.world(Check.with(text)));
        Check.is("undo", x.undo(), -1);
        AskingFragments y = busy();
        Check.is("an empty net", y.net(), 0);
        Check.same("as a new object", Check.world(y), Check.world(new AskingFragments()));
        Check.is("undo", y.undo(), -1);
        AskingFragments z = busy();
        Check.is("the same net once more", Check.net(z, "node a;node b;node c;edge a b 1;edge b c 2;edge a c 3;"), 6);
        Check.is("the weight as told", z.edge(1, 2), 2);
        Check.is("undo", z.undo(), -1);
        Check.of("A NET without NODES, a RULE without LINES; an empty tape");
        AskingFragments fresh = new AskingFragments();
        for (int w = 0; w < 4; w++) Check.is("count(" + w + ")", fresh.count(w), 0);
        for (int w = 0; w < 11; w++) Check.is("now(" + w + ")", fresh.now(w), 0);
        Check.is("undo", fresh.undo(), -1);
        Check.same("nothing told", Check.told(fresh), " fault=0,-1 next=-1,-1 tape=0 spelled=" + "-1,".repeat(40));
    }

    static void latestFault() {
        Check.of("0 the kind of its FAULT (0: none, or ahead of any), 1 how many LINES are ahead (NONE: none). NONE for another what");
        AskingFragments x = new AskingFragments();
        Check.is("ahead of any", x.fault(0), 0);
        Check.is("ahead of any", x.fault(1), -1);
        String[] texts = {"?", "node a;edge a b 1;", "node a;node b;edge a b 0;", nodes(13)};
        int[] kinds = {1, 3, 2, 4}, lines = {0, 1, 2, 12};
        for (int i = 0; i < texts.length; i++) {
            Check.is("net", Check.net(x, texts[i]) < 0, true);
            Check.is("kind", x.fault(0), kinds[i]);
            Check.is("lines", x.fault(1), lines[i]);
            for (int w : Check.FAR) Check.is("fault(" + w + ")", x.fault(w), -1);
            Check.is("fault(2)", x.fault(2), -1);
            Check.is("rule", Check.rule(x, "old;?"), -5);
            Check.is("the rule's", x.fault(0), 1);
            Check.is("the rule's", x.fault(1), 1);
            Check.is("one without", i % 2 == 0 ? Check.rule(x, "old;") : Check.net(x, "node a;"), 1);
            Check.is("none", x.fault(0), 0);
            Check.is("none", x.fault(1), -1);
            for (int w : Check.FAR) Check.is("fault(" + w + ")", x.fault(w), -1);
        }
    }

    static void counts() {
        Check.of("0 NODES, 1 EDGES, 2 LINES of the RULE, 3 bytes of the tape. NONE for another what");
        AskingFragments x = Check.with(nodes(12) + edges(30));
        Check.rule(x, "old;".repeat(10));
        for (int i = 0; i < 47; i++) x.feed(0, 0, 0, 0, 0);
        int[] full = {12, 30, 10, 940};
        for (int w = 0; w < 4; w++) Check.is("count(" + w + ")", x.count(w), full[w]);
        Check.is("count(4)", x.count(4), -1);
        for (int w : Check.FAR) Check.is("count(" + w + ")", x.count(w), -1);
    }
}
