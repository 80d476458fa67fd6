/** Promises 1 to 6 and 38: the tape, NET, RULE and their FAULTS. */
public final class TextsTest {
    public static void main(String[] args) {
        fresh();
        tape();
        nets();
        netFaults();
        longNets();
        manyNodes();
        rules();
        ruleFaults();
        longRules();
        faultsOfTheLatest();
        Check.close();
    }

    static void fresh() {
        AskingFragments x = new AskingFragments();
        for (int w = 0; w < 4; w++) Check.is("fresh count", x.count(w), 0);
        Check.is("count(4)", x.count(4), -1);
        Check.is("count(-1)", x.count(-1), -1);
        Check.is("fresh fault(0)", x.fault(0), 0);
        Check.is("fresh fault(1)", x.fault(1), -1);
        Check.is("fault(2)", x.fault(2), -1);
        Check.is("fault(-1)", x.fault(-1), -1);
        Check.is("NONE", AskingFragments.NONE, -1);
        Check.is("an empty net", x.net(), 0);
        Check.is("an empty rule", x.rule(), 0);
    }

    static void tape() {
        AskingFragments x = new AskingFragments();
        // "node" is 0x6e6f6465: the highest byte comes first.
        Check.is("feed", x.feed(0x6e6f6465, 0x20613b00, 0, 0, 0), 20);
        Check.is("end(-1)", x.end(-1), false);
        Check.is("end(21)", x.end(21), false);
        Check.is("end(20)", x.end(20), true);
        Check.is("end(7)", x.end(7), true);
        Check.is("end(8)", x.end(8), false);
        Check.is("count(3)", x.count(3), 7);
        Check.is("net", x.net(), 1);
        Check.is("tape is empty", x.count(3), 0);
        for (int i = 1; i <= 47; i++) Check.is("feed " + i, x.feed(0, 0, 0, 0, 0), 20 * i);
        Check.is("feed too much", x.feed(0, 0, 0, 0, 0), -1);
        Check.is("none came", x.count(3), 940);
        Check.is("end(921)", x.end(921), true);
        Check.is("feed would be 941", x.feed(0, 0, 0, 0, 0), -1);
        Check.is("end(920)", x.end(920), true);
        Check.is("feed to 940", x.feed(-1, -1, -1, -1, -1), 940);
        Check.is("bytes of -1 are no token", x.net(), -1);
    }

    static void nets() {
        AskingFragments x = Check.with("node a;");
        Check.is("one line", Check.net(x, "node a ; "), 1);
        Check.is("a line that is not ended", Check.net(x, "\n node abcdefg;node b\n;edge b abcdefg 07 ;edge"), -47);
        Check.is("blanks between or not", Check.net(x, "\n node abcdefg;node b\n;edge b abcdefg 07 ;"), 3);
        Check.is("nodes", x.count(0), 2);
        Check.is("edges", x.count(1), 1);
        Check.is("first as told", x.edge(0, 0), 1);
        Check.is("second as told", x.edge(0, 1), 0);
        Check.is("weight 07", x.edge(0, 2), 7);
        Check.is("weight 99", Check.net(x, "node a;node b;edge a b 99;"), 3);
        Check.is("is 99", x.edge(0, 2), 99);
        Check.is("blanks alone", Check.net(x, " \n "), 0);
        Check.is("no nodes", x.count(0), 0);
    }

    static void netFaults() {
        // 1: no token, or one that can't come
        Check.netFault("nod a;", 1, 0, 0);
        Check.netFault("node a;nodea;", 1, 7, 1);
        Check.netFault("node a;;", 1, 7, 1);
        Check.netFault("node 5;", 1, 5, 0);
        Check.netFault("node a1;", 1, 5, 0);
        Check.netFault("node 1a;", 1, 5, 0);
        Check.netFault("node abcdefgh;", 1, 5, 0);
        Check.netFault("node A;", 1, 5, 0);
        Check.netFault("node\ta;", 1, 4, 0);
        Check.netFault("node a;\0", 1, 7, 1);
        Check.netFault("node a;\u00e1", 1, 7, 1);
        Check.netFault("node a b;", 1, 7, 0);
        Check.netFault("node a", 1, 6, 0);
        Check.netFault("node", 1, 4, 0);
        Check.netFault("node ", 1, 5, 0);
        Check.netFault("node a;node b;edge a b;", 1, 22, 2);
        Check.netFault("node a;node b;edge a b c;", 1, 23, 2);
        Check.netFault("node a;node b;edge a b 100;", 1, 23, 2);
        Check.netFault("node a;node b;edge a b5;", 1, 21, 2);
        Check.netFault("node a;node b;edge a b 5", 1, 24, 2);
        Check.netFault("node a;edge a 5 1;", 1, 14, 1);
        // The words of both texts can't be names; where a node is due they can't come either.
        for (String word : "node edge late any connect begin test accept reject report change from to level over old new light heavy low high".split(" ")) {
            Check.netFault("node " + word + ";", 1, 5, 0);
            Check.netFault("node a;edge a " + word + " 1;", 1, 14, 1);
        }
        // 2: a number that is not as told
        Check.netFault("node a;node b;edge a b 0;", 2, 23, 2);
        Check.netFault("node a;node b;edge a b 00;", 2, 23, 2);
        // 3: names
        Check.netFault("node a;node b;node a;", 3, 19, 2);
        Check.netFault("edge a b 1;", 3, 5, 0);
        Check.netFault("node a;edge a b 1;node b;", 3, 14, 1);
        Check.netFault("node a;edge a a 1;", 3, 14, 1);
        Check.netFault("node a;node b;edge a b 1;edge a b 2;", 3, 32, 3);
        Check.netFault("node a;node b;edge a b 1;edge b a 0;", 3, 32, 3);
        Check.netFault("node a;node ab;edge a abc 1;", 3, 22, 2);
        // the first along the text
        Check.netFault("node a;node a;?", 3, 12, 1);
        Check.netFault("node a;?node a;", 1, 7, 1);
    }

    static String blanks(int n) { return " ".repeat(n); }

    static void longNets() {
        AskingFragments x = new AskingFragments();
        String line = "node a;";
        Check.is("900 bytes", Check.net(x, line + blanks(893)), 1);
        Check.netFault(line + blanks(894), 1, 900, 1);
        Check.netFault(line + blanks(892) + "; ", 1, 899, 1);
        Check.netFault(line + blanks(893) + ";", 1, 900, 1);
        // Tokens that begin ahead of the most bytes are read whole.
        Check.netFault(line + blanks(892) + "node b;", 1, 900, 1);
        Check.netFault(line + blanks(886) + "node bbb;", 1, 900, 1);
        Check.netFault(line + blanks(887) + "node a;", 3, 899, 1);
        Check.netFault(line + blanks(887) + "node aa;", 1, 900, 1);
        Check.netFault(line + blanks(887) + "node abcdefgh;", 1, 899, 1);
        Check.netFault(line + blanks(888) + "node a;", 1, 900, 1);
        Check.netFault(line + blanks(886) + "node b; ", 1, 900, 2);
        Check.is("ends with 900", Check.net(x, line + blanks(886) + "node b;"), 2);
        Check.netFault(blanks(899) + "edgeedge", 1, 899, 0);
        Check.netFault("node" + blanks(897), 1, 900, 0);
        Check.netFault("node" + blanks(890), 1, 894, 0);
    }

    static String nodes(int n) {
        StringBuilder b = new StringBuilder();
        for (int i = 0; i < n; i++) b.append("node ").append((char) ('a' + i)).append(';');
        return b.toString();
    }

    static String edges(int nodes, int n) {
        StringBuilder b = new StringBuilder();
        for (int i = 0, made = 0; i < nodes; i++) {
            for (int j = i + 1; j < nodes && made < n; j++, made++) b.append("edge ").append((char) ('a' + i)).append(' ').append((char) ('a' + j)).append(" 1;");
        }
        return b.toString();
    }

    static void manyNodes() {
        AskingFragments x = new AskingFragments();
        Check.is("12 nodes, 30 edges", Check.net(x, nodes(12) + edges(12, 30)), 42);
        Check.is("12", x.count(0), 12);
        Check.is("30", x.count(1), 30);
        Check.is("the last edge", x.edge(29, 5), 0);
        Check.none("edge 30", () -> x.edge(30, 0));
        Check.netFault(nodes(13), 4, 84, 12);
        Check.netFault(nodes(12) + "node", 4, 84, 12);
        Check.netFault(nodes(12) + "node a", 4, 84, 12);
        Check.netFault(nodes(12) + "5", 1, 84, 12);
        Check.netFault(nodes(12) + edges(12, 31), 4, 84 + 330, 42);
        Check.netFault(nodes(12) + edges(12, 30) + "edge a a 0", 4, 84 + 330, 42);
    }

    static void rules() {
        AskingFragments x = Check.with("node a;node b;edge a b 1;");
        Check.is("all kinds of lines", Check.rule(x, "old;new;light;heavy;low;high;late any;connect;begin level 0;test from a to b level 9 over 99;"), 10);
        Check.is("count(2)", x.count(2), 10);
        Check.is("ends", Check.rule(x, "accept;reject;report;change;any over 1;late test level 09;"), 6);
        Check.is("no lines", Check.rule(x, ""), 0);
        Check.is("count(2) none", x.count(2), 0);
        Check.is("rule of one", Check.rule(x, "old;"), 1);
        Check.is("a new net", Check.net(x, "node b;"), 1);
        Check.is("has no rule", x.count(2), 0);
        Check.is("a node of the old net", Check.rule(x, "any from a;"), -10);
    }

    static void ruleFaults() {
        Check.ruleFault("older;", 1, 0, 0);
        Check.ruleFault("old", 1, 3, 0);
        Check.ruleFault("old new;", 1, 4, 0);
        Check.ruleFault("late;", 1, 4, 0);
        Check.ruleFault("late old;", 1, 5, 0);
        Check.ruleFault("late late any;", 1, 5, 0);
        Check.ruleFault("new;from a;", 1, 4, 1);
        Check.ruleFault("node a;", 1, 0, 0);
        Check.ruleFault("any a;", 1, 4, 0);
        Check.ruleFault("any from;", 1, 8, 0);
        Check.ruleFault("any from to b;", 1, 9, 0);
        Check.ruleFault("any from 1;", 1, 9, 0);
        Check.ruleFault("any level a;", 1, 10, 0);
        Check.ruleFault("any level 100;", 1, 10, 0);
        Check.ruleFault("any test;", 1, 4, 0);
        Check.ruleFault("any from a", 1, 10, 0);
        Check.ruleFault(";", 1, 0, 0);
        Check.ruleFault("any level 10;", 2, 10, 0);
        Check.ruleFault("any over 0;", 2, 9, 0);
        Check.ruleFault("any from c;", 3, 9, 0);
        Check.ruleFault("old;any to cc;", 3, 11, 1);
        String ten = "old;old;old;old;old;old;old;old;old;old;";
        Check.ruleFault(ten + "late any;", 4, 40, 10);
        Check.ruleFault(ten + "any", 4, 40, 10);
        Check.ruleFault(ten + "new;", 4, 40, 10);
        Check.ruleFault(ten + "node;", 1, 40, 10);
        Check.ruleFault(ten + ";", 1, 40, 10);
        String four = "any from a to b level 1 over 1";
        Check.ruleFault(four + " from a;", 4, 31, 0);
        Check.ruleFault(four + " over", 4, 31, 0);
        Check.ruleFault(four + " old;", 1, 31, 0);
        AskingFragments x = Check.with("node a;node b;edge a b 1;");
        Check.is("four are well", Check.rule(x, four + ";"), 1);
    }

    static void longRules() {
        AskingFragments x = Check.with("node a;");
        Check.is("300 bytes", Check.rule(x, "old;" + blanks(296)), 1);
        Check.ruleFault("old;" + blanks(297), 1, 300, 1);
        Check.ruleFault("old;" + blanks(295) + "new;", 1, 300, 1);
        Check.ruleFault("old;" + blanks(295) + "newer;", 1, 299, 1);
        Check.ruleFault("old;" + blanks(292) + "new; ", 1, 300, 2);
        Check.ruleFault("old;" + blanks(293) + "new;", 1, 300, 1);
    }

    static void faultsOfTheLatest() {
        AskingFragments x = new AskingFragments();
        Check.is("net", Check.net(x, "node a;node a;"), -13);
        Check.is("kind", x.fault(0), 3);
        Check.is("lines", x.fault(1), 1);
        Check.is("rule", Check.rule(x, "old;"), 1);
        Check.is("none now", x.fault(0), 0);
        Check.is("no lines now", x.fault(1), -1);
        Check.is("rule", Check.rule(x, "old"), -4);
        Check.is("kind", x.fault(0), 1);
        Check.is("lines", x.fault(1), 0);
        Check.is("net", Check.net(x, "node a;"), 1);
        Check.is("none now", x.fault(0), 0);
    }
}
