import java.util.Random;

/** Drawn runs of calls, each answer held against PlainFox. The draws are the same in every run. */
public final class FuzzTest {
    private static final int RUNS = Integer.getInteger("fuzz.runs", 2000);
    /** An object is used for so many calls at most. */
    private static final int CALLS = 512;
    private static final int CALLS_OF_COMPARE = 128;
    private static final int MOST_CALLS_OF_TEXT = 24;
    private static final String[] WORDS = {"rider", "pace", "gap", "behind", "level", "out", "was",
        "gate", "foxpace", "law", "step"};
    private static final String[] SIGNS = {"<", "<=", "=", ">=", ">"};
    private static final String[] JUNK = {";", " ", "[", "]", "not ", "and ", "or ", "if ", "ride ",
        "fox ", "rider ", "gate ", "<", "=", ">", "+", "-", "*", "/", "%", "0", "9", "123456", "x",
        "A", "\u0000", "\u00e9", "\t", "100", "not", "99999"};

    private final Random random;
    private final Due due = new Due();
    private FoxReply fox;
    private PlainFox plain;
    private final StringBuilder history = new StringBuilder();
    private int calls;

    private FuzzTest(long seed) {
        random = new Random(seed);
    }

    public static void main(String[] args) {
        int wrong = 0;
        int passed = 0;
        for (int i = 0; i < RUNS && wrong < 5; i++) {
            FuzzTest test = new FuzzTest(Long.getLong("fuzz.seed", 1000L) + i);
            test.run();
            if (test.due.failed > 0) {
                System.out.println("seed " + i + ": " + test.history);
            }
            wrong += test.due.failed;
            passed += test.due.passed;
        }
        Due.close(passed, wrong);
    }

    private int upTo(int n) {
        return random.nextInt(n + 1);
    }

    private boolean once(int in) {
        return random.nextInt(in) == 0;
    }

    // ---- texts

    private String blank() {
        return once(6) ? once(3) ? "  " : "" : " ";
    }

    private String hunt() {
        StringBuilder s = new StringBuilder();
        int round = 2 + upTo(once(3) ? 58 : 14);
        s.append("fox ").append(round).append(" ").append(1 + upTo(8)).append(blank().isEmpty() ? " " : "  ");
        s.append(upTo(once(2) ? 9 : 3));
        int clauses = upTo(once(20) ? 40 : 12);
        int riders = 0;
        for (int i = 0; i < clauses; i++) {
            s.append(blank()).append(";").append(blank());
            if (once(2) && (riders < 6 || once(10))) {
                riders++;
                s.append("rider").append(blank()).append(upTo(once(4) ? 99 : 20)).append(" ").append(1 + upTo(8));
            } else {
                s.append("gate").append(blank()).append(upTo(round - (once(40) ? 0 : 1)));
            }
        }
        return spoil(s);
    }

    private String spoil(StringBuilder s) {
        if (once(5)) {
            int many = 1 + upTo(1);
            for (int i = 0; i < many; i++) {
                int at = upTo(s.length());
                int cut = Math.min(s.length(), at + (once(2) ? 0 : upTo(4)));
                s.replace(at, cut, once(5) ? "" : JUNK[upTo(JUNK.length - 1)]);
            }
        }
        return s.toString();
    }

    private String value() {
        if (once(2)) {
            return WORDS[upTo(WORDS.length - 1)];
        }
        return Integer.toString(once(8) ? upTo(99999) : upTo(12));
    }

    private String sum() {
        StringBuilder s = new StringBuilder(value());
        int more = once(12) ? upTo(20) : upTo(3);
        for (int i = 0; i < more; i++) {
            s.append(blank()).append("+-*/%".charAt(upTo(4))).append(blank()).append(value());
        }
        return s.toString();
    }

    private String fact(int deep) {
        if (deep > 0 && once(3)) {
            return once(2) ? "not " + fact(deep - 1) : "[" + blank() + test(deep - 1) + blank() + "]";
        }
        return sum() + blank() + SIGNS[upTo(4)] + blank() + sum();
    }

    private String deepFact() {
        StringBuilder s = new StringBuilder();
        int brackets = 0;
        int deep = 8 + upTo(4);
        for (int i = 0; i < deep; i++) {
            if (once(2)) {
                s.append("not ");
            } else {
                s.append("[");
                brackets++;
            }
        }
        s.append("gap>1");
        for (int i = 0; i < brackets; i++) {
            s.append("]");
        }
        return s.toString();
    }

    private String test(int deep) {
        StringBuilder s = new StringBuilder(once(25) ? deepFact() : fact(deep));
        int more = upTo(2);
        for (int i = 0; i < more; i++) {
            s.append(once(2) ? " and " : " or ").append(fact(deep));
        }
        return s.toString();
    }

    private String rule() {
        StringBuilder s = new StringBuilder();
        int clauses = 1 + upTo(once(10) ? 13 : 3);
        for (int i = 0; i < clauses; i++) {
            s.append(i == 0 ? "" : ";").append(blank()).append("ride ").append(sum());
            if (i < clauses - 1 ? !once(10) : once(2)) {
                s.append(" if ").append(test(3));
            }
        }
        return spoil(s);
    }

    // ---- calls

    private void check(String call, int got, int want) {
        calls++;
        history.append(call).append(" ");
        due.due(call, got, want);
    }

    private void tell(String text) {
        check("end(0)", fox.end(0), plain.end(0));
        // One feed more than the TAPE takes is refused already.
        for (int i = 0; i < text.length() && i <= 400; i += 20) {
            int[] v = Due.twenty(text, i);
            check("feed", fox.feed(v[0], v[1], v[2], v[3], v[4]), plain.feed(v[0], v[1], v[2], v[3], v[4]));
        }
        history.append("[").append(text).append("] ");
        check("end", fox.end(text.length()), plain.end(text.length()));
    }

    private void tellHunt() {
        tell(hunt());
        check("hunt()", fox.hunt(), plain.hunt());
    }

    private void tellRule() {
        tell(rule());
        check("rule()", fox.rule(), plain.rule());
    }

    private void run() {
        fox = new FoxReply();
        plain = new PlainFox();
        if (once(10)) {
            anyCalls(10);
        }
        for (int i = 0; i < 3 && hasRoom(0); i++) {
            tellHunt();
        }
        int many = upTo(5);
        for (int i = 0; i < many && hasRoom(0); i++) {
            tellRule();
        }
        check("force", fox.force(many - 2), plain.force(many - 2));
        anyCalls(CALLS);
        compareAll();
        if (calls > CALLS) {
            due.due("calls of one object", calls, CALLS);
        }
    }

    /** Whether there is room for so many calls, a text more, and for comparing all at the end. */
    private boolean hasRoom(int more) {
        return calls + more + MOST_CALLS_OF_TEXT + CALLS_OF_COMPARE < CALLS;
    }

    private void anyCalls(int many) {
        for (int i = 0; i < many && due.failed == 0 && hasRoom(0); i++) {
            anyCall();
            if (once(150) && hasRoom(CALLS_OF_COMPARE)) {
                compareAll();
            }
        }
    }

    private void compareAll() {
        for (int w = -1; w <= 15; w++) {
            check("count(" + w + ")", fox.count(w), plain.count(w));
        }
        for (int r = -1; r <= 6; r++) {
            for (int w = -1; w <= 4; w++) {
                check("rider(" + r + ", " + w + ")", fox.rider(r, w), plain.rider(r, w));
            }
        }
        for (int f = -1; f <= 60; f++) {
            check("gateAt(" + f + ")", fox.gateAt(f), plain.gateAt(f));
        }
    }

    private int some(int lo, int hi) {
        if (once(25)) {
            return once(2) ? lo - 1 - upTo(2) : hi + 1 + upTo(2);
        }
        if (once(200)) {
            return once(2) ? Integer.MIN_VALUE : Integer.MAX_VALUE;
        }
        return lo + upTo(hi - lo);
    }

    private int someRider() {
        return once(20) ? some(0, 5) : some(0, Math.max(0, plain.now.horses.size() - 1));
    }

    private void anyCall() {
        int r = someRider();
        int o = someRider();
        int n = some(1, once(2) ? 8 : 60);
        int w = some(0, 2);
        int w1 = some(0, 1);
        int k = some(0, 3);
        switch (upTo(31)) {
            case 0: case 1: case 2: case 3: check("step()", fox.step(), plain.step()); break;
            case 4: { int p = some(1, 9); check("spur(" + r + ", " + p + ")", fox.spur(r, p), plain.spur(r, p)); break; }
            case 5: { int p = some(1, 9); check("hold(" + r + ", " + p + ")", fox.hold(r, p), plain.hold(r, p)); break; }
            case 6: check("dig(" + r + ")", fox.dig(r), plain.dig(r)); break;
            case 7: { int f = some(0, Math.max(1, plain.now.round - 1)); check("gate(" + f + ")", fox.gate(f), plain.gate(f)); break; }
            case 8: check("undo()", fox.undo(), plain.undo()); break;
            case 9: check("last()", fox.last(), plain.last()); break;
            case 10: { int m = some(0, 100); check("ahead(" + r + ", " + m + ", " + w + ")", fox.ahead(r, m, w), plain.ahead(r, m, w)); break; }
            case 11: check("it(" + r + ")", fox.it(r), plain.it(r)); break;
            case 12: check("leastPace(" + r + ", " + n + ")", fox.leastPace(r, n), plain.leastPace(r, n)); break;
            case 13: { int m = some(1, once(8) ? 4 : 3); check("row(" + r + ", " + m + ", " + w + ")", fox.row(r, m, w), plain.row(r, m, w)); break; }
            case 14: check("shut(" + n + ", " + w1 + ")", fox.shut(n, w1), plain.shut(n, w1)); break;
            case 15: check("help(" + n + ", " + w1 + ")", fox.help(n, w1), plain.help(n, w1)); break;
            case 16: check("allIt()", fox.allIt(), plain.allIt()); break;
            case 17: check("meet(" + r + ", " + o + ")", fox.meet(r, o), plain.meet(r, o)); break;
            case 18: check("bunches(" + w1 + ")", fox.bunches(w1), plain.bunches(w1)); break;
            case 19: { int m = some(0, 9999); check("pence(" + m + ", " + r + ")", fox.pence(m, r), plain.pence(m, r)); break; }
            case 20: { int m = some(1, 20); check("rests(" + r + ", " + o + ", " + m + ", " + w + ")", fox.rests(r, o, m, w), plain.rests(r, o, m, w)); break; }
            case 21: check("open(" + r + ", " + n + ", " + w1 + ")", fox.open(r, n, w1), plain.open(r, n, w1)); break;
            case 22: { int m = some(1, 100); check("close(" + m + ", " + w + ")", fox.close(m, w), plain.close(m, w)); break; }
            case 23: anyNote(r); break;
            case 24: check("ruled(" + w1 + ")", fox.ruled(w1), plain.ruled(w1)); break;
            case 25: { int m = some(0, 60); check("look(" + m + ", " + w1 + ")", fox.look(m, w1), plain.look(m, w1)); break; }
            case 26: { int m = once(4) ? random.nextInt() : upTo(100000); check("seed(" + m + ")", fox.seed(m), plain.seed(m)); break; }
            case 27: { int m = some(1, 10); int p = some(0, 100); check("mornings(" + m + ", " + n + ", " + p + ", " + w1 + ")", fox.mornings(m, n, p, w1), plain.mornings(m, n, p, w1)); break; }
            case 28: check("image(" + k + ")", fox.image(k), plain.image(k)); break;
            case 29: if (once(3)) { check("back(" + k + ")", fox.back(k), plain.back(k)); } break;
            case 30: { int f = some(-1, Math.max(0, plain.rules.size() - 1)); check("force(" + f + ")", fox.force(f), plain.force(f)); break; }
            default: anyTelling(); break;
        }
    }

    private void anyNote(int r) {
        int n = some(0, once(2) ? 10 : 60);
        int far = some(0, 9999);
        if (plain.now.has(r) && n >= 0 && n <= 60 && !once(8)) {
            far = plain.runsAt(n, upTo(plain.rules.size()) - 1)[r];
        }
        check("note(" + n + ", " + r + ", " + far + ")", fox.note(n, r, far), plain.note(n, r, far));
    }

    private void anyTelling() {
        if (once(6)) {
            tellHunt();
        } else if (once(4)) {
            tellRule();
        } else if (once(2)) {
            int a = random.nextInt();
            check("feed(" + a + ", 1, 2, 3, -4)", fox.feed(a, 1, 2, 3, -4), plain.feed(a, 1, 2, 3, -4));
        } else if (once(2)) {
            int n = some(0, 400);
            check("end(" + n + ")", fox.end(n), plain.end(n));
        } else if (once(2)) {
            check("hunt()", fox.hunt(), plain.hunt());
        } else {
            check("rule()", fox.rule(), plain.rule());
        }
    }
}
