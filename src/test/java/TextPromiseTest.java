/** Promises 1 to 6: a new object, feed, end, hunt, rule, force; every FAULT. */
public final class TextPromiseTest {
    private static final Due DUE = new Due();
    private static final String FOX = "fox 2 1 0";

    public static void main(String[] args) {
        newObject();
        feed();
        end();
        huntStands();
        huntReplaces();
        huntFaults();
        huntLimits();
        ruleStands();
        ruleFaults();
        ruleLimits();
        force();
        DUE.close();
    }

    private static void due(String call, long got, long want) {
        DUE.due(call, got, want);
    }

    private static int fault(int place, int kind) {
        return -2 - (1 + 8 * place + kind);
    }

    private static String times(int n, String text) {
        return text.repeat(n);
    }

    private static void newObject() {
        FoxReply fox = new FoxReply();
        due("NONE", FoxReply.NONE, -1);
        for (int what = 0; what <= 14; what++) {
            due("new: count(" + what + ")", fox.count(what), what == 6 ? -1 : 0);
        }
        due("new: rider(0, 0)", fox.rider(0, 0), -1);
        due("new: gateAt(0)", fox.gateAt(0), -1);
        due("new: step()", fox.step(), -2);
        due("new: spur(0, 1)", fox.spur(0, 1), -1);
        due("new: hold(0, 1)", fox.hold(0, 1), -1);
        due("new: dig(0)", fox.dig(0), -1);
        due("new: gate(0)", fox.gate(0), -1);
        due("new: undo()", fox.undo(), -1);
        due("new: last()", fox.last(), -2);
        due("new: ahead(0, 0, 0)", fox.ahead(0, 0, 0), -1);
        due("new: it(0)", fox.it(0), -1);
        due("new: leastPace(0, 1)", fox.leastPace(0, 1), -1);
        due("new: row(0, 1, 0)", fox.row(0, 1, 0), -1);
        due("new: shut(1, 0)", fox.shut(1, 0), -2);
        due("new: help(1, 0)", fox.help(1, 0), -1);
        due("new: allIt()", fox.allIt(), -1);
        due("new: meet(0, 1)", fox.meet(0, 1), -1);
        due("new: bunches(0)", fox.bunches(0), -1);
        due("new: pence(1, 0)", fox.pence(1, 0), -1);
        due("new: rests(0, 1, 1, 0)", fox.rests(0, 1, 1, 0), -1);
        due("new: open(0, 1, 0)", fox.open(0, 1, 0), -2);
        due("new: close(1, 0)", fox.close(1, 0), -1);
        due("new: note(0, 0, 0)", fox.note(0, 0, 0), -2);
        due("new: note(-1, 0, 0)", fox.note(-1, 0, 0), 0);
        due("new: ruled(0)", fox.ruled(0), -3);
        due("new: look(0, 0)", fox.look(0, 0), -1);
        due("new: seed(7)", fox.seed(7), 0);
        due("new: mornings(1, 1, 0, 0)", fox.mornings(1, 1, 0, 0), -1);
        due("new: back(0)", fox.back(0), -1);
        due("new: force(0)", fox.force(0), -2);
        due("new: force(-1)", fox.force(-1), -1);
        due("new: hunt()", fox.hunt(), fault(0, 0));
        due("new: rule()", fox.rule(), fault(0, 0));
    }

    private static void feed() {
        FoxReply fox = new FoxReply();
        // The highest byte of each number comes first.
        due("feed fox 2 1 0", fox.feed(0x666F7820, 0x32203120, 0x30202020, 0x20202020, 0x20202020), 20);
        due("hunt()", fox.hunt(), 0);
        for (int i = 1; i <= 20; i++) {
            due("feed " + i, fox.feed(-1, -1, -1, -1, -1), 20 * i);
        }
        due("feed 21", fox.feed(0, 0, 0, 0, 0), -1);
        due("count(14)", fox.count(14), 400);
        due("end(381)", fox.end(381), 381);
        due("feed at 381", fox.feed(0, 0, 0, 0, 0), -1);
        due("count(14)", fox.count(14), 381);
        due("end(380)", fox.end(380), 380);
        due("feed at 380", fox.feed(0, 0, 0, 0, 0), 400);
    }

    private static void end() {
        FoxReply fox = new FoxReply();
        due("end(0)", fox.end(0), 0);
        due("end(1)", fox.end(1), -1);
        fox.feed(0, 0, 0, 0, 0);
        due("end(21)", fox.end(21), -1);
        due("end(-1)", fox.end(-1), -1);
        due("end(min)", fox.end(Integer.MIN_VALUE), -1);
        due("count(14)", fox.count(14), 20);
        due("end(20)", fox.end(20), 20);
        due("end(7)", fox.end(7), 7);
        due("end(8)", fox.end(8), -1);
        due("count(14)", fox.count(14), 7);
    }

    private static void huntStands() {
        FoxReply fox = new FoxReply();
        due("hunt", Due.hunt(fox, " fox 60 9  9 ;gate 59;rider99 9; rider 0 1;gate 0;gate 59 ; gate 00007 "), 2);
        int[] want = {60, 9, 9, 2, 3, 0, -1, 0, 100, 0, 0, 0, 0, 0, 0};
        for (int what = 0; what <= 14; what++) {
            due("hunt: count(" + what + ")", fox.count(what), want[what]);
        }
        due("rider(0, 0)", fox.rider(0, 0), 1);
        due("rider(0, 1)", fox.rider(0, 1), 9);
        due("rider(0, 2)", fox.rider(0, 2), 0);
        due("rider(0, 3)", fox.rider(0, 3), 0);
        due("rider(1, 0)", fox.rider(1, 0), 100);
        due("rider(1, 1)", fox.rider(1, 1), 1);
        due("gateAt(0)", fox.gateAt(0), 1);
        due("gateAt(7)", fox.gateAt(7), 1);
        due("gateAt(8)", fox.gateAt(8), 0);
        due("gateAt(59)", fox.gateAt(59), 1);
        due("gateAt(60)", fox.gateAt(60), -1);
        due("hunt of two fields", Due.hunt(fox, "fox2 1 0"), 0);
        due("count(0)", fox.count(0), 2);
        due("count(4)", fox.count(4), 0);
    }

    private static void huntReplaces() {
        FoxReply fox = Due.hunted("fox 10 3 2;rider 5 4;gate 2");
        Due.rule(fox, "ride 1");
        fox.force(0);
        fox.seed(99);
        fox.note(0, 0, 95);
        fox.step();
        due("fault", Due.hunt(fox, "fox 1"), fault(4, 1));
        // All stays but the TAPE, which is empty then.
        due("count(14) behind a fault", fox.count(14), 0);
        due("count(7) behind a fault", fox.count(7), 1);
        due("count(11) behind a fault", fox.count(11), 1);
        due("count(12) behind a fault", fox.count(12), 1);
        due("rider(0, 0) behind a fault", fox.rider(0, 0), 96);
        due("hunt", Due.hunt(fox, "fox 7 2 1;rider 3 5;rider 4 6"), 2);
        int[] want = {7, 2, 1, 2, 0, 1, 0, 0, 100, 0, 0, 0, 0, 99, 0};
        for (int what = 0; what <= 14; what++) {
            due("replaced: count(" + what + ")", fox.count(what), want[what]);
        }
        due("undo()", fox.undo(), -1);
        due("rider(0, 0)", fox.rider(0, 0), 97);
        due("rider(0, 3)", fox.rider(0, 3), 0);
        due("rider(1, 1)", fox.rider(1, 1), 6);
    }

    private static void huntFault(String text, int place, int kind) {
        due("hunt '" + text + "'", Due.hunt(new FoxReply(), text), fault(place, kind));
    }

    private static void huntFaults() {
        huntFault("", 0, 0);
        huntFault("   ", 3, 0);
        huntFault("fox", 3, 0);
        huntFault("fox  ", 5, 0);
        huntFault("fox 1 1 0", 4, 1);
        huntFault("fox 61 1 0", 4, 1);
        huntFault("fox 2 0 0", 6, 1);
        huntFault("fox 2 10 0", 6, 1);
        huntFault("fox 2 1 10", 8, 1);
        huntFault("fox 000002 1 0", 4, 1);
        huntFault("fox 4294967298 1 0", 4, 1);
        huntFault("fox 2 1", 7, 0);
        huntFault("fox 2 1;", 7, 0);
        huntFault("fox -2 1 0", 4, 0);
        huntFault("foxs 2 1 0", 0, 0);
        huntFault("Fox 2 1 0", 0, 0);
        huntFault("f ox 2 1 0", 0, 0);
        huntFault("ride 1", 0, 0);
        huntFault("5", 0, 0);
        huntFault(";fox 2 1 0", 0, 0);
        huntFault("rider 0 1", 0, 4);
        huntFault(" gate 0", 1, 4);
        huntFault(FOX + ";" + FOX, 10, 4);
        huntFault(FOX + ";rider 0 1;fox", 20, 4);
        huntFault(FOX + ";rider 100 1", 16, 1);
        huntFault(FOX + ";rider 0 0", 18, 1);
        huntFault(FOX + ";rider 0 10", 18, 1);
        huntFault(FOX + ";rider 0", 17, 0);
        huntFault(FOX + ";gate 2", 15, 1);
        huntFault(FOX + ";gate x", 15, 0);
        huntFault(FOX + ";gate 123456", 15, 1);
        huntFault(FOX + ";", 10, 0);
        huntFault(FOX + "; ;", 11, 0);
        huntFault(FOX + " 0", 10, 0);
        huntFault(FOX + " 123456", 10, 0);
        huntFault(FOX + "gate 0", 9, 0);
        huntFault(FOX + "\t", 9, 0);
        huntFault(FOX + "\u00e9", 9, 0);
        huntFault(FOX + "\u0000", 9, 0);
        huntFault(FOX + "[", 9, 0);
    }

    private static void huntLimits() {
        due("6 riders", Due.hunt(new FoxReply(), FOX + times(6, ";rider 0 1")), 6);
        huntFault(FOX + times(7, ";rider 0 1"), 70, 4);
        due("40 clauses", Due.hunt(new FoxReply(), FOX + times(39, ";gate 1")), 0);
        huntFault(FOX + times(40, ";gate 1"), 10 + 39 * 7, 4);
        huntFault(FOX + times(39, ";gate 1") + ";x", 10 + 39 * 7, 0);
        huntFault(FOX + times(39, ";gate 1") + ";", 10 + 39 * 7, 0);
        huntFault(FOX + times(39, ";gate 1") + ";fox", 10 + 39 * 7, 4);
        String blanks = times(391, " ");
        due("400 bytes", Due.hunt(new FoxReply(), FOX + blanks), 0);
        huntFault("fox" + times(397, " "), 400, 0);
    }

    private static void ruleStands() {
        FoxReply fox = new FoxReply();
        due("rule", Due.rule(fox, "ride 1"), 0);
        due("count(14)", fox.count(14), 0);
        due("count(5)", fox.count(5), 1);
        due("rule", Due.rule(fox, " ride99999+rider*pace/gap%behind - level if out<was and gate<=foxpace or law"
                + ">=step and not[1>2 or not not 3=3];ride 0 ; ride 0 if 1 = 1"), 1);
        due("fault", Due.rule(fox, "ride ]"), fault(5, 0));
        due("count(14) behind a fault", fox.count(14), 0);
        due("count(5) behind a fault", fox.count(5), 2);
        for (int i = 2; i <= 5; i++) {
            due("rule", Due.rule(fox, "ride " + i), i);
        }
        Due.tell(fox, "ride 1");
        due("a seventh", fox.rule(), -1);
        due("count(14) stays", fox.count(14), 6);
        due("count(5) stays", fox.count(5), 6);
        Due.tell(fox, "ride");
        due("a seventh that has a fault", fox.rule(), -1);
        due("count(14) stays", fox.count(14), 4);
    }

    private static void ruleFault(String text, int place, int kind) {
        due("rule '" + text + "'", Due.rule(new FoxReply(), text), fault(place, kind));
    }

    private static void ruleFaults() {
        ruleFault("", 0, 0);
        ruleFault("ride", 4, 0);
        ruleFault("rides 1", 0, 0);
        ruleFault("fox 2 1 0", 0, 0);
        ruleFault("ride x", 5, 0);
        ruleFault("ride ride", 5, 0);
        ruleFault("ride if", 5, 0);
        ruleFault("ride not 1", 5, 0);
        ruleFault("ride [1]", 5, 0);
        ruleFault("ride -1", 5, 0);
        ruleFault("ride gaps", 5, 0);
        ruleFault("ride 123456", 5, 1);
        ruleFault("ride 1 123456", 7, 0);
        ruleFault("ride 1;", 7, 0);
        ruleFault("ride 1;;", 7, 0);
        ruleFault("ride 1 or", 7, 0);
        ruleFault("ride 1 < 2", 7, 0);
        ruleFault("ride 1]", 6, 0);
        ruleFault("ride 5 %", 8, 0);
        ruleFault("ride 5 % % 2", 9, 0);
        ruleFault("ride 1 if", 9, 0);
        ruleFault("ride 1 if gap", 13, 0);
        ruleFault("ride 1 if gap;", 13, 0);
        ruleFault("ride 1 if gap and", 14, 0);
        ruleFault("ride 1 if gap =", 15, 0);
        ruleFault("ride 1 if gap = 1]", 17, 0);
        ruleFault("ride 1 if gap = 1 if", 18, 0);
        ruleFault("ride 1 if gap = 1 < 2", 18, 0);
        ruleFault("ride 1 if gap = 1 and", 21, 0);
        ruleFault("ride 1 if gap = 1 or ;", 21, 0);
        ruleFault("ride 1 if gap = 1 not 1 = 1", 18, 0);
        ruleFault("ride 1 if gap < = 1", 16, 0);
        ruleFault("ride 1 if gap =< 1", 15, 0);
        ruleFault("ride 1 if gap == 1", 15, 0);
        ruleFault("ride 1 if gap >=< 1", 16, 0);
        ruleFault("ride 1 if gap + not", 16, 0);
        ruleFault("ride 1 if gap + [", 16, 0);
        ruleFault("ride 1 if not", 13, 0);
        ruleFault("ride 1 if notgap = 1", 10, 0);
        ruleFault("ride 1 if [ ]", 12, 0);
        ruleFault("ride 1 if [gap = 1", 18, 0);
        ruleFault("ride 1 if [gap = 1;ride 2", 18, 0);
        ruleFault("ride 1 if [gap] = 1", 14, 0);
        ruleFault("ride 1 if [gap = 1] + 2", 20, 0);
        ruleFault("ride 1 if [gap = 1] = 2", 20, 0);
        ruleFault("ride 1 if [gap = 1]]", 19, 0);
        ruleFault("ride 1 if [gap = 1] gap", 20, 0);
        ruleFault("ride (1)", 5, 0);
        ruleFault("ride \u00fa", 5, 0);
    }

    private static void ruleLimits() {
        due("ten not", Due.rule(new FoxReply(), "ride 1 if " + times(10, "not ") + "1 = 1"), 0);
        ruleFault("ride 1 if " + times(11, "not ") + "1 = 1", 50, 2);
        due("ten [", Due.rule(new FoxReply(), "ride 1 if " + times(10, "[") + "1 = 1" + times(10, "]")), 0);
        ruleFault("ride 1 if " + times(11, "[") + "1 = 1" + times(11, "]"), 20, 2);
        due("five of both", Due.rule(new FoxReply(), "ride 1 if " + times(5, "not[") + "1=1" + times(5, "]")), 0);
        ruleFault("ride 1 if " + times(5, "not[") + "not 1=1" + times(5, "]"), 30, 2);
        due("ten, then ten", Due.rule(new FoxReply(), "ride 1 if " + times(10, "not ") + "1=1 and "
                + times(10, "not ") + "1=1 or " + times(10, "[") + "1=1" + times(10, "]")), 0);
        due("60 values", Due.rule(new FoxReply(), "ride 1" + times(59, "+1")), 0);
        ruleFault("ride 1" + times(60, "+1"), 125, 3);
        ruleFault("ride 1" + times(59, "+1") + "+x", 125, 0);
        ruleFault("ride 1" + times(59, "+1") + "+123456", 125, 1);
        ruleFault("ride 1" + times(59, "+1") + ";ride 1", 130, 3);
        due("60 parts", Due.rule(new FoxReply(), "ride 1 if 1" + times(56, "+1") + "<1"), 0);
        ruleFault("ride 1 if 1" + times(57, "+1") + "<1", 126, 3);
        ruleFault("ride 1 if 1" + times(58, "+1") + "<1", 127, 3);
        due("12 clauses", Due.rule(new FoxReply(), "ride 1" + times(11, ";ride 1")), 0);
        ruleFault("ride 1" + times(12, ";ride 1"), 84, 4);
        ruleFault("ride 1" + times(11, ";ride 1") + ";gate", 84, 0);
    }

    private static void force() {
        FoxReply fox = new FoxReply();
        Due.rule(fox, "ride 1");
        Due.rule(fox, "ride 2");
        due("count(6): a told RULE is not in force", fox.count(6), -1);
        due("force(2)", fox.force(2), -2);
        due("force(-2)", fox.force(-2), -2);
        due("force(1)", fox.force(1), -1);
        due("force(0)", fox.force(0), 1);
        due("force(6)", fox.force(6), -2);
        due("count(6)", fox.count(6), 0);
        due("force(-1)", fox.force(-1), 0);
        due("count(6)", fox.count(6), -1);
    }
}
