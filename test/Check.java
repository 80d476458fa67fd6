import java.nio.charset.StandardCharsets;
import java.util.NoSuchElementException;

/** What the tests share: comparing answers, and telling texts through the tape. */
final class Check {
    interface Call { int answer(); }

    /** Numbers that are no index of anything, but for the ones just behind the last. */
    static final int[] FAR = {-1, -2, 1000, 1 << 30, Integer.MAX_VALUE, Integer.MIN_VALUE, Integer.MIN_VALUE + 1};

    static int wrong = 0;
    static int checked = 0;
    static String sentence = "";

    /** The sentence of the document that is tested from here on; it is told where a check fails. */
    static void of(String told) { sentence = told; }

    static void report(String text) {
        wrong++;
        System.out.println((sentence.isEmpty() ? "" : "[" + sentence + "] ") + text);
    }

    static void is(String what, int got, int want) {
        checked++;
        if (got != want) report(what + " answered " + got + ", due is " + want);
    }

    static void same(String what, String got, String want) {
        checked++;
        if (got.equals(want)) return;
        int i = 0;
        while (i < got.length() && i < want.length() && got.charAt(i) == want.charAt(i)) i++;
        int from = Math.max(0, i - 60);
        report(what + ": .." + got.substring(from, Math.min(got.length(), i + 30)) + ", due is .." + want.substring(from, Math.min(want.length(), i + 30)));
    }

    static void is(String what, boolean got, boolean want) { is(what, got ? 1 : 0, want ? 1 : 0); }

    static void none(String what, Call call) {
        checked++;
        String got = "nothing";
        try {
            call.answer();
        } catch (NoSuchElementException e) {
            return;
        } catch (RuntimeException e) {
            got = e.toString();
        }
        report(what + " threw " + got + ", due is NoSuchElementException");
    }

    /** Puts a text behind what the tape has. */
    static void feed(AskingFragments x, String text) {
        byte[] bytes = text.getBytes(StandardCharsets.ISO_8859_1);
        int before = x.count(3);
        for (int i = 0; i < bytes.length; i += 20) {
            int[] v = new int[5];
            for (int j = 0; j < 20 && i + j < bytes.length; j++) v[j / 4] |= (bytes[i + j] & 255) << (24 - j % 4 * 8);
            x.feed(v[0], v[1], v[2], v[3], v[4]);
        }
        is("end behind a text", x.end(before + bytes.length), true);
    }

    static int net(AskingFragments x, String text) {
        feed(x, text);
        return x.net();
    }

    static int rule(AskingFragments x, String text) {
        feed(x, text);
        return x.rule();
    }

    static AskingFragments with(String text) {
        AskingFragments x = new AskingFragments();
        is("net() of " + text, net(x, text) >= 0, true);
        return x;
    }

    /** A text is a NET, or has this fault at this place behind so many lines; the net before it stays. */
    static void netFault(String text, int kind, int place, int lines) {
        AskingFragments x = with("node kept;");
        is("net() of " + text, net(x, text), -1 - place);
        is("fault(0) of " + text, x.fault(0), kind);
        is("fault(1) of " + text, x.fault(1), lines);
        is("nodes kept at " + text, x.count(0), 1);
        is("tape emptied at " + text, x.count(3), 0);
    }

    static void ruleFault(String text, int kind, int place, int lines) {
        AskingFragments x = with("node a;node b;edge a b 1;");
        is("rule()", rule(x, "old;new;"), 2);
        is("rule() of " + text, rule(x, text), -1 - place);
        is("fault(0) of " + text, x.fault(0), kind);
        is("fault(1) of " + text, x.fault(1), lines);
        is("rule kept at " + text, x.count(2), 2);
        is("tape emptied at " + text, x.count(3), 0);
    }

    static void netTaken(String text, int lines) {
        AskingFragments x = new AskingFragments();
        is("net() of " + text, net(x, text), lines);
        is("fault(0) of " + text, x.fault(0), 0);
        is("fault(1) of " + text, x.fault(1), -1);
        is("tape emptied at " + text, x.count(3), 0);
    }

    static void ruleTaken(String text, int lines) {
        AskingFragments x = with("node a;node b;edge a b 1;");
        is("rule() of " + text, rule(x, text), lines);
        is("fault(0) of " + text, x.fault(0), 0);
        is("fault(1) of " + text, x.fault(1), -1);
        is("count(2) of " + text, x.count(2), lines);
        is("tape emptied at " + text, x.count(3), 0);
    }

    /** All that is so with the net, told by calls that change nothing. */
    static String world(AskingFragments x) {
        StringBuilder b = new StringBuilder();
        for (int w = 0; w < 11; w++) b.append(" now").append(w).append('=').append(x.now(w));
        for (int w = 0; w < 7; w++) b.append(" sent").append(w).append('=').append(x.sent(w));
        for (int w = 0; w < 3; w++) b.append(" count").append(w).append('=').append(x.count(w));
        b.append(" choice=").append(x.choice()).append(" until=").append(x.until());
        for (int n = 0; n < x.count(0); n++) {
            for (int w = 0; w < 11; w++) b.append(" node").append(n).append('.').append(w).append('=').append(x.node(n, w));
            for (int k = 0; k <= x.node(n, 9); k++) b.append(" waits").append(n).append('=').append(x.waits(n, k, 0)).append(',').append(x.waits(n, k, 1));
        }
        for (int e = 0; e < x.count(1); e++) {
            for (int w = 0; w < 6; w++) b.append(" edge").append(e).append('.').append(w).append('=').append(x.edge(e, w));
            b.append(" on=").append(x.onWay(2 * e)).append(',').append(x.onWay(2 * e + 1));
        }
        for (int k = 0; k < x.now(0); k++) {
            for (int w = 0; w < 7; w++) b.append(" letter").append(k).append('.').append(w).append('=').append(x.letter(k, w));
        }
        return b.toString();
    }

    /** What other calls told last, and the tape. */
    static String told(AskingFragments x) {
        StringBuilder b = new StringBuilder(" fault=").append(x.fault(0)).append(',').append(x.fault(1));
        b.append(" next=").append(x.nextBy(0)).append(',').append(x.nextBy(1)).append(" tape=").append(x.count(3)).append(" spelled=");
        for (int i = 0; i < 40; i++) b.append(x.byteAt(i)).append(',');
        return b.toString();
    }

    /** A call has this answer, and leaves all as it is. */
    static void stays(AskingFragments x, String what, Call call, int want) {
        String before = world(x) + told(x);
        is(what, call.answer(), want);
        same("all stays at " + what, world(x) + told(x), before);
    }

    static void throwsAndStays(AskingFragments x, String what, Call call) {
        String before = world(x) + told(x);
        none(what, call);
        same("all stays at " + what, world(x) + told(x), before);
    }

    /** Takes what is on these edges, the lower way first, till nothing is. */
    static void runOver(AskingFragments x, int... edges) {
        boolean more = true;
        for (int i = 0; i < 1000 && more; i++) {
            more = false;
            for (int e : edges) {
                for (int way = 2 * e; way <= 2 * e + 1 && !more; way++) {
                    if (x.onWay(way) > 0) {
                        x.take(way);
                        more = true;
                    }
                }
            }
        }
    }

    static void node(AskingFragments x, int n, int... want) {
        for (int w = 0; w < want.length; w++) is("node(" + n + ", " + w + ")", x.node(n, w), want[w]);
    }

    static void letter(AskingFragments x, int k, int... want) {
        for (int w = 0; w < want.length; w++) is("letter(" + k + ", " + w + ")", x.letter(k, w), want[w]);
    }

    static void spelled(AskingFragments x, int k, String want) {
        is("spell(" + k + ")", x.spell(k), want.length());
        for (int i = 0; i < want.length(); i++) is("byteAt(" + i + ") of " + want, x.byteAt(i), want.charAt(i));
        is("byteAt behind " + want, x.byteAt(want.length()), -1);
        is("byteAt(-1) of " + want, x.byteAt(-1), -1);
    }

    static void close() {
        System.out.println(checked + " answers checked, " + wrong + " wrong");
        if (wrong > 0) System.exit(1);
    }
}
