import java.io.IOException;
import java.nio.file.Files;
import java.nio.file.Path;
import java.util.function.ToIntFunction;

/**
 * Tests by sentence: each quotes words of the document, which must stand there, and has checks of its
 * own behind it.
 */
final class Edges {
    private static final Path DOC = Path.of("../shared/DOC.md");

    private final Due due = new Due();
    private final String doc;
    private String words = "";
    private int checksBefore = -1;

    Edges() {
        try {
            doc = Files.readString(DOC);
        } catch (IOException e) {
            throw new IllegalStateException("no " + DOC, e);
        }
    }

    /** The test of one sentence begins. */
    void sentence(String quoted) {
        endSentence();
        words = quoted;
        if (!doc.contains(quoted)) {
            due.due("the document doesn't say '" + quoted + "'", 0, 1);
        }
        checksBefore = due.passed + due.failed;
        if (Boolean.getBoolean("edges.print")) {
            System.out.println("EDGE " + quoted);
        }
    }

    private void endSentence() {
        if (due.passed + due.failed == checksBefore) {
            due.due("'" + words + "' has no check", 0, 1);
        }
    }

    void due(String call, long got, long want) {
        due.due("'" + words + "': " + call, got, want);
    }

    void close() {
        endSentence();
        due.close();
    }

    // ---- texts; a ^ marks the place of the FAULT that is due

    void huntStands(String text, int riders) {
        due("hunt [" + text + "]", Due.hunt(new FoxReply(), text), riders);
    }

    void huntFault(String marked, int kind) {
        due("hunt [" + marked + "]", Due.hunt(new FoxReply(), unmarked(marked)), fault(marked, kind));
    }

    void ruleStands(String text) {
        due("rule [" + text + "]", Due.rule(new FoxReply(), text), 0);
    }

    void ruleFault(String marked, int kind) {
        due("rule [" + marked + "]", Due.rule(new FoxReply(), unmarked(marked)), fault(marked, kind));
    }

    private static String unmarked(String marked) {
        return marked.replace("^", "");
    }

    private static int fault(String marked, int kind) {
        return -2 - (1 + 8 * marked.indexOf('^') + kind);
    }

    // ---- hunts

    /** A HUNT with a RULE that is IN FORCE. */
    FoxReply ruled(String hunt, String rule) {
        FoxReply fox = Due.hunted(hunt);
        int number = Due.rule(fox, rule);
        if (number != 0 || fox.force(0) != -1) {
            due("rule [" + rule + "]", number, 0);
        }
        return fox;
    }

    /** How far the RIDERS ride in the next STEP, a digit each. */
    static int rides(FoxReply fox) {
        int digits = 0;
        for (int i = 0; i < fox.count(3); i++) {
            digits = digits * 10 + fox.ahead(i, 1, 1) - fox.rider(i, 0);
        }
        return digits;
    }

    /** How far the RIDERS of a HUNT ride in its first STEP by a RULE. */
    void rides(String hunt, String rule, int want) {
        due("[" + rule + "] of [" + hunt + "]", rides(ruled(hunt, rule)), want);
    }

    static void steps(FoxReply fox, int n) {
        for (int i = 0; i < n; i++) {
            fox.step();
        }
    }

    /** All that can be seen of how it is, in some hundred calls at most. */
    static String state(FoxReply fox) {
        StringBuilder s = new StringBuilder();
        for (int what = 0; what <= 14; what++) {
            s.append(fox.count(what)).append(' ');
        }
        int riders = fox.count(3);
        for (int i = 0; i < riders; i++) {
            for (int what = 0; what <= 3; what++) {
                s.append(fox.rider(i, what)).append(' ');
            }
        }
        int round = fox.count(0);
        for (int field = 0; field < round; field++) {
            s.append(fox.gateAt(field));
        }
        return s.append(' ').append(fox.ruled(0)).append(' ').append(fox.ruled(1)).toString();
    }

    /** A call that is refused: its answer, and nothing happens. */
    void refused(FoxReply fox, String call, ToIntFunction<FoxReply> made, int want) {
        String before = state(fox);
        due(call, made.applyAsInt(fox), want);
        String after = state(fox);
        if (!before.equals(after)) {
            System.out.println("before: " + before);
            System.out.println("after:  " + after);
        }
        due("nothing happens by " + call, before.equals(after) ? 1 : 0, 1);
    }
}
