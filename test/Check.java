import java.nio.charset.StandardCharsets;
import java.util.NoSuchElementException;

/** What the tests share: comparing answers, and telling texts through the tape. */
final class Check {
    interface Call { int answer(); }

    static int wrong = 0;
    static int checked = 0;

    static void is(String what, int got, int want) {
        checked++;
        if (got != want) {
            wrong++;
            System.out.println(what + " answered " + got + ", due is " + want);
        }
    }

    static void is(String what, boolean got, boolean want) { is(what, got ? 1 : 0, want ? 1 : 0); }

    static void none(String what, Call call) {
        checked++;
        String got = "nothing";
        try {
            call.answer();
        } catch (NoSuchElementException e) {
            return;
        } catch (RuntimeException e) {
            got = e.toString();
        }
        wrong++;
        System.out.println(what + " threw " + got + ", due is NoSuchElementException");
    }

    /** Puts a text behind what the tape has. */
    static void feed(AskingFragments x, String text) {
        byte[] bytes = text.getBytes(StandardCharsets.ISO_8859_1);
        int before = x.count(3);
        for (int i = 0; i < bytes.length; i += 20) {
            int[] v = new int[5];
            for (int j = 0; j < 20 && i + j < bytes.length; j++) v[j / 4] |= (bytes[i + j] & 255) << (24 - j % 4 * 8);
            x.feed(v[0], v[1], v[2], v[3], v[4]);
        }
        is("end behind a text", x.end(before + bytes.length), true);
    }

    static int net(AskingFragments x, String text) {
        feed(x, text);
        return x.net();
    }

    static int rule(AskingFragments x, String text) {
        feed(x, text);
        return x.rule();
    }

    static AskingFragments with(String text) {
        AskingFragments x = new AskingFragments();
        is("net() of " + text, net(x, text) >= 0, true);
        return x;
    }

    /** A text is a NET, or has this fault at this place behind so many lines; the net before it stays. */
    static void netFault(String text, int kind, int place, int lines) {
        AskingFragments x = with("node kept;");
        is("net() of " + text, net(x, text), -1 - place);
        is("fault(0) of " + text, x.fault(0), kind);
        is("fault(1) of " + text, x.fault(1), lines);
        is("nodes kept at " + text, x.count(0), 1);
        is("tape emptied at " + text, x.count(3), 0);
    }

    static void ruleFault(String text, int kind, int place, int lines) {
        AskingFragments x = with("node a;node b;edge a b 1;");
        is("rule()", rule(x, "old;new;"), 2);
        is("rule() of " + text, rule(x, text), -1 - place);
        is("fault(0) of " + text, x.fault(0), kind);
        is("fault(1) of " + text, x.fault(1), lines);
        is("rule kept at " + text, x.count(2), 2);
        is("tape emptied at " + text, x.count(3), 0);
    }

    static void spelled(AskingFragments x, int k, String want) {
        is("spell(" + k + ")", x.spell(k), want.length());
        for (int i = 0; i < want.length(); i++) is("byteAt(" + i + ") of " + want, x.byteAt(i), want.charAt(i));
        is("byteAt behind " + want, x.byteAt(want.length()), -1);
        is("byteAt(-1) of " + want, x.byteAt(-1), -1);
    }

    static void close() {
        System.out.println(checked + " answers checked, " + wrong + " wrong");
        if (wrong > 0) System.exit(1);
    }
}
