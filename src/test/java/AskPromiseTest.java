/** Promises 16 to 28: what is asked of STEPS to come, BUNCHES, PENCE and RESTS. */
public final class AskPromiseTest {
    private static final Due DUE = new Due();
    private static final String THREE = "fox 10 3 2;rider 5 4;rider 8 2;rider 6 3;gate 2;gate 7";
    private static final String FAR_BACK = "fox 10 2 0;rider 30 1;rider 3 1;gate 2;gate 0";

    public static void main(String[] args) {
        ahead();
        it();
        leastPace();
        row();
        shut();
        help();
        allIt();
        meet();
        bunches();
        pence();
        rests();
        open();
        close();
        nothingChanges();
        byTheRuleInForce();
        DUE.close();
    }

    private static void due(String call, long got, long want) {
        DUE.due(call, got, want);
    }

    private static void ahead() {
        FoxReply fox = Due.hunted(THREE);
        due("ahead(0, 5, 0)", fox.ahead(0, 5, 0), 112);
        due("ahead(99, 5, 0): rider is not asked", fox.ahead(99, 5, 0), 112);
        due("ahead(2, 5, 1)", fox.ahead(2, 5, 1), 109);
        due("ahead(1, 5, 2)", fox.ahead(1, 5, 2), 3);
        due("ahead(0, 0, 0)", fox.ahead(0, 0, 0), 100);
        due("ahead(1, 0, 1)", fox.ahead(1, 0, 1), 92);
        due("ahead(0, 100, 0)", fox.ahead(0, 100, 0), 350);
        due("ahead(0, 101, 0)", fox.ahead(0, 101, 0), -1);
        due("ahead(0, -1, 0)", fox.ahead(0, -1, 0), -1);
        due("ahead(0, 1, 3)", fox.ahead(0, 1, 3), -1);
        due("ahead(0, 1, -1)", fox.ahead(0, 1, -1), -1);
        due("ahead(3, 1, 1)", fox.ahead(3, 1, 1), -1);
        due("ahead(-1, 1, 2)", fox.ahead(-1, 1, 2), -1);
        fox.step();
        due("what was before counts", fox.ahead(1, 1, 2), 1);
        due("what was before counts", fox.ahead(1, 2, 2), 2);
    }

    private static void it() {
        FoxReply fox = Due.hunted(THREE);
        due("it(1)", fox.it(1), 0);
        due("it(0)", fox.it(0), -2);
        due("it(3)", fox.it(3), -1);
        due("it(-1)", fox.it(-1), -1);
        fox.step();
        due("it(1) in step 1", fox.it(1), 2);
        due("without a gate", Due.hunted("fox 60 1 0;rider 5 1").it(0), -2);
        due("a round away", Due.hunted("fox 60 1 9;rider 5 1;gate 40").it(0), 59);
        due("the 200th", passing("step >= 198").it(0), 199);
        due("the 201st", passing("step >= 199").it(0), -2);
    }

    /** Each step is at a gate; rider 1 rides a field when told, comes level by one and ahead by two. */
    private static FoxReply passing(String when) {
        FoxReply fox = Due.hunted("fox 2 1 0;rider 1 1;rider 2 1;gate 0;gate 1");
        Due.rule(fox, "ride 1 if rider = 1 and " + when);
        fox.force(0);
        return fox;
    }

    private static void leastPace() {
        FoxReply fox = Due.hunted(THREE);
        due("leastPace(1, 10)", fox.leastPace(1, 10), 5);
        due("leastPace(0, 10)", fox.leastPace(0, 10), 1);
        due("leastPace(1, 1)", fox.leastPace(1, 1), 5);
        due("leastPace(1, 0)", fox.leastPace(1, 0), -1);
        due("leastPace(1, 61)", fox.leastPace(1, 61), -1);
        due("leastPace(3, 1)", fox.leastPace(3, 1), -1);
        due("leastPace(-1, 1)", fox.leastPace(-1, 1), -1);
        due("by the greatest", Due.hunted("fox 10 3 0;rider 10 1;rider 2 1;gate 2").leastPace(0, 1), 9);
        FoxReply second = Due.hunted("fox 10 3 0;rider 5 1;gate 5");
        due("ahead of the gate", second.leastPace(0, 1), 1);
        due("to the gate", second.leastPace(0, 2), -2);
        due("alone: by none", Due.hunted("fox 2 1 0;rider 0 9;gate 0").leastPace(0, 60), -2);
        due("no gate", Due.hunted("fox 2 1 0;rider 0 9").leastPace(0, 60), 1);
    }

    private static void row() {
        FoxReply fox = Due.hunted(THREE);
        due("row(2, 1, 0)", fox.row(2, 1, 0), 0);
        due("row(2, 1, 1)", fox.row(2, 1, 1), 95);
        due("row(2, 1, 2)", fox.row(2, 1, 2), 1);
        due("row(2, 4, 1)", fox.row(2, 4, 1), 95);
        due("row(2, 4, 2)", fox.row(2, 4, 2), 1);
        due("row(1, 1, 0): in any way", fox.row(1, 1, 0), 1);
        due("row(1, 1, 1)", fox.row(1, 1, 1), 92);
        due("row(1, 1, 2)", fox.row(1, 1, 2), 0);
        due("row(0, 0, 0)", fox.row(0, 0, 0), -1);
        due("row(0, 5, 0)", fox.row(0, 5, 0), -1);
        due("row(0, 1, 3)", fox.row(0, 1, 3), -1);
        due("row(0, 1, -1)", fox.row(0, 1, -1), -1);
        due("row(3, 1, 0)", fox.row(3, 1, 0), -1);
        due("row(-1, 1, 0)", fox.row(-1, 1, 0), -1);
        fox.step();
        due("to ground", fox.row(1, 1, 1), 94);
        due("to ground, then it", fox.row(1, 2, 0), 1);
        due("to ground: rides none", fox.row(1, 2, 1), 94);
        due("to ground: the first row", fox.row(1, 2, 2), 0);
        // Rider 1 flees who is level with them: 0 and 5 would do as well as 1 and 0, but go farther.
        FoxReply shy = Due.hunted("fox 10 1 0;rider 10 9;rider 10 9;gate 2");
        Due.rule(shy, "ride 5 if step = 1 and level = 1");
        shy.force(0);
        due("shy 0", shy.row(0, 2, 0), 0);
        due("shy 1", shy.row(0, 2, 1), 91);
        due("shy 2", shy.row(0, 2, 2), 1);
        // The gate comes in the third step: what must be made good is ridden last, so the first is 0.
        FoxReply late = Due.hunted("fox 20 2 0;rider 9 1;rider 12 9;gate 6");
        due("late 0", late.row(1, 3, 0), 0);
        due("late 1", late.row(1, 3, 1), 95);
        due("late 2", late.row(1, 3, 2), 0);
    }

    private static void shut() {
        FoxReply fox = Due.hunted(THREE);
        due("shut(10, 0)", fox.shut(10, 0), 2);
        due("shut(10, 1)", fox.shut(10, 1), 2);
        due("shut(1, 0)", fox.shut(1, 0), 2);
        due("shut(1, 1)", fox.shut(1, 1), 0);
        due("shut(0, 0)", fox.shut(0, 0), -2);
        due("shut(61, 0)", fox.shut(61, 0), -2);
        due("shut(1, 2)", fox.shut(1, 2), -2);
        due("shut(1, -1)", fox.shut(1, -1), -2);
        FoxReply none = Due.hunted("fox 10 3 2;rider 5 4");
        due("no gates", none.shut(60, 0), -1);
        due("no gates", none.shut(60, 1), 0);
        FoxReply round = Due.hunted("fox 10 3 0;rider 5 4;gate 0");
        due("ahead of field 0", round.shut(3, 0), -1);
        due("field 0", round.shut(4, 0), 0);
        due("field 0", round.shut(4, 1), 0);
        FoxReply alike = Due.hunted("fox 10 1 0;rider 5 4;gate 5;gate 3");
        due("of several nothing", alike.shut(2, 0), -1);
        due("of several the least", alike.shut(5, 0), 3);
        due("how often", alike.shut(5, 1), 1);
    }

    private static void help() {
        FoxReply fox = Due.hunted(FAR_BACK);
        due("help(5, 0)", fox.help(5, 0), 1);
        due("help(5, 1)", fox.help(5, 1), 1);
        due("help(4, 0)", fox.help(4, 0), 0);
        due("help(4, 1)", fox.help(4, 1), 0);
        FoxReply turned = Due.hunted("fox 10 2 0;rider 3 1;rider 30 1;gate 2;gate 0");
        due("turned: how many", turned.help(5, 0), 1);
        due("turned: who", turned.help(5, 1), 2);
        due("turned: help(1, 0)", turned.help(1, 0), 0);
        due("help(0, 0)", fox.help(0, 0), -1);
        due("help(61, 0)", fox.help(61, 0), -1);
        due("help(1, 2)", fox.help(1, 2), -1);
        due("help(1, -1)", fox.help(1, -1), -1);
        FoxReply three = Due.hunted(THREE);
        due("by none", three.help(10, 0), -2);
        due("by none", three.help(10, 1), -2);
        three.step();
        due("only these steps count", three.help(2, 0), 0);
        due("no riders", Due.hunted("fox 10 3 2;gate 2").help(60, 0), 0);
    }

    private static void allIt() {
        FoxReply fox = Due.hunted(FAR_BACK);
        due("never", fox.allIt(), -2);
        fox.spur(0, 9);
        due("allIt()", fox.allIt(), 4);
        for (int i = 0; i < 4; i++) {
            fox.step();
        }
        due("allIt()", fox.allIt(), 4);
        fox.step();
        due("all have been it", fox.allIt(), 4);
        fox.step();
        due("this step less 1", fox.allIt(), 5);
        due("behind the 200th", passing("step >= 198").allIt(), 199);
        due("behind the 201st", passing("step >= 199").allIt(), -2);
        due("no riders", Due.hunted("fox 10 3 2;gate 2").allIt(), -1);
        due("no gates", Due.hunted("fox 10 3 2;rider 2 2").allIt(), -2);
    }

    private static void meet() {
        FoxReply fox = Due.hunted(THREE);
        due("meet(0, 2)", fox.meet(0, 2), 6);
        due("meet(2, 0)", fox.meet(2, 0), 6);
        due("meet(0, 1)", fox.meet(0, 1), -2);
        due("meet(0, 0)", fox.meet(0, 0), -1);
        due("meet(0, 3)", fox.meet(0, 3), -1);
        due("meet(-1, 0)", fox.meet(-1, 0), -1);
        fox.step();
        due("meet(0, 2)", fox.meet(0, 2), 6);
        due("now", Due.hunted("fox 10 3 2;rider 2 2;rider 2 3").meet(0, 1), 0);
        FoxReply far = Due.hunted("fox 60 9 2;rider 1 1;rider 99 2");
        due("a field nearer in each step", far.meet(0, 1), 98);
        due("at the begin of the 200th", passing("step = 198").meet(0, 1), 199);
        due("at the begin of the 201st", passing("step = 199").meet(0, 1), -2);
    }

    private static void bunches() {
        FoxReply fox = Due.hunted(THREE);
        due("bunches(0)", fox.bunches(0), 1);
        due("bunches(1)", fox.bunches(1), 7);
        due("bunches(2)", fox.bunches(2), -1);
        due("bunches(-1)", fox.bunches(-1), -1);
        fox.step();
        due("but those to ground", fox.bunches(0), 1);
        due("but those to ground", fox.bunches(1), 5);
        FoxReply ones = Due.hunted("fox 9 1 0;rider 20 1;rider 13 1;rider 10 1;rider 3 1;rider 0 1");
        due("each alone", ones.bunches(0), 5);
        due("farthest ahead", ones.bunches(1), 16);
        FoxReply twos = Due.hunted("fox 9 1 0;rider 12 1;rider 0 1;rider 10 1;rider 2 1;rider 50 1");
        due("two of two", twos.bunches(0), 3);
        due("two of two", twos.bunches(1), 10);
        FoxReply chain = Due.hunted("fox 9 1 0;rider 0 1;rider 0 1;rider 3 1;rider 5 1;rider 7 1");
        due("a chain", chain.bunches(0), 2);
        due("a chain", chain.bunches(1), 28);
        due("no riders", Due.hunted("fox 9 1 0").bunches(0), 0);
        due("no riders", Due.hunted("fox 9 1 0").bunches(1), 0);
    }

    private static void pence() {
        FoxReply fox = Due.hunted("fox 2 1 9;rider 1 1;rider 2 1;rider 3 1;gate 0;gate 1");
        due("nobody was", fox.pence(100, 0), 0);
        fox.step();
        due("all to one", fox.pence(9999, 2), 9999);
        due("all to one", fox.pence(9999, 0), 0);
        fox.step();
        fox.step();
        due("a third", fox.pence(100, 0), 34);
        due("a third", fox.pence(100, 1), 33);
        due("a third", fox.pence(100, 2), 33);
        due("a third", fox.pence(101, 1), 34);
        due("a third", fox.pence(101, 2), 33);
        fox.dig(2);
        fox.step();
        // 1, 1 and 2 of 4: of 10 these lose 2, 2 and 0 parts of 4.
        due("pence(10, 0)", fox.pence(10, 0), 3);
        due("pence(10, 1)", fox.pence(10, 1), 2);
        due("pence(10, 2)", fox.pence(10, 2), 5);
        // Of 9 these lose 1, 1 and 2.
        due("pence(9, 0)", fox.pence(9, 0), 2);
        due("pence(9, 2)", fox.pence(9, 2), 5);
        due("pence(0, 0)", fox.pence(0, 0), 0);
        due("pence(-1, 0)", fox.pence(-1, 0), -1);
        due("pence(10000, 0)", fox.pence(10000, 0), -1);
        due("pence(1, 3)", fox.pence(1, 3), -1);
        due("pence(1, -1)", fox.pence(1, -1), -1);
    }

    private static void rests() {
        FoxReply third = Due.hunted("fox 10 3 0;rider 5 4;rider 20 4;rider 18 1;gate 2");
        due("rests 0", third.rests(0, 1, 1, 0), 1);
        due("rests 1", third.rests(0, 1, 1, 1), 1);
        due("rests 2", third.rests(0, 1, 1, 2), 3);
        due("turned 1", third.rests(1, 0, 1, 1), 3);
        due("turned 2", third.rests(1, 0, 1, 2), 1);
        FoxReply race = Due.hunted("fox 10 3 0;rider 5 4;rider 5 4;gate 2");
        due("a race has none", race.rests(0, 1, 1, 0), 0);
        due("a race has none", race.rests(0, 1, 1, 1), -2);
        due("a race has none", race.rests(0, 1, 1, 2), -2);
        race.gate(2);
        due("without a gate", race.rests(0, 1, 20, 0), 1);
        due("without a gate", race.rests(0, 1, 20, 2), 1);
        FoxReply later = Due.hunted("fox 10 3 0;rider 5 4;rider 20 4;rider 18 1;gate 5");
        due("ahead of the gate", later.rests(0, 1, 1, 2), 1);
        due("to the gate", later.rests(0, 1, 2, 2), 3);
        due("rests(0, 0, ..)", race.rests(0, 0, 1, 0), -1);
        due("rests(0, 2, ..)", race.rests(0, 2, 1, 0), -1);
        due("rests(-1, 0, ..)", race.rests(-1, 0, 1, 0), -1);
        due("rests(.., 0, 0)", race.rests(0, 1, 0, 0), -1);
        due("rests(.., 21, 0)", race.rests(0, 1, 21, 0), -1);
        due("rests(.., 3)", race.rests(0, 1, 1, 3), -1);
        due("rests(.., -1)", race.rests(0, 1, 1, -1), -1);
    }

    private static void open() {
        FoxReply fox = Due.hunted("fox 10 3 0;rider 5 4");
        due("open(0, 10, 0)", fox.open(0, 10, 0), 1);
        due("open(0, 10, 1)", fox.open(0, 10, 1), 3);
        due("open(0, 0, 0)", fox.open(0, 0, 0), -2);
        due("open(0, 61, 0)", fox.open(0, 61, 0), -2);
        due("open(0, 1, 2)", fox.open(0, 1, 2), -2);
        due("open(0, 1, -1)", fox.open(0, 1, -1), -2);
        due("open(1, 1, 0)", fox.open(1, 1, 0), -2);
        due("open(-1, 1, 0)", fox.open(-1, 1, 0), -2);
        fox.gate(1);
        due("of several at none", fox.open(0, 1, 0), -1);
        due("of several at none", fox.open(0, 1, 1), 1);
        FoxReply two = Due.hunted("fox 2 1 0;rider 5 4;gate 1");
        due("field 0", two.open(0, 2, 0), 0);
        due("field 0", two.open(0, 2, 1), 2);
        FoxReply three = Due.hunted(THREE);
        due("never last", three.open(0, 3, 0), -1);
        due("never last", three.open(0, 3, 1), 0);
    }

    private static void close() {
        FoxReply fox = Due.hunted(THREE);
        due("close(1, 0)", fox.close(1, 0), 3);
        due("close(1, 1)", fox.close(1, 1), 0);
        due("close(1, 2)", fox.close(1, 2), 1);
        // Gaps of rider 0 behind steps 0 to 3: 3, 3, 2, 3; of rider 2 at that of step 2: 4.
        due("close(4, 0)", fox.close(4, 0), 2);
        due("close(4, 1)", fox.close(4, 1), 0);
        due("close(4, 2)", fox.close(4, 2), 3);
        due("close(0, 0)", fox.close(0, 0), -1);
        due("close(101, 0)", fox.close(101, 0), -1);
        due("close(1, 3)", fox.close(1, 3), -1);
        due("close(1, -1)", fox.close(1, -1), -1);
        FoxReply alike = Due.hunted("fox 10 1 0;rider 5 1;rider 4 1;rider 4 1");
        due("the first step", alike.close(100, 2), 0);
        due("the least", alike.close(100, 1), 1);
        due("how much", alike.close(100, 0), 4);
        FoxReply none = Due.hunted("fox 10 1 0");
        due("none", none.close(1, 0), 99999);
        due("none", none.close(1, 1), -2);
        due("none", none.close(1, 2), -2);
    }

    private static void nothingChanges() {
        FoxReply fox = Due.hunted(THREE);
        fox.step();
        fox.ahead(0, 100, 0);
        fox.it(0);
        fox.leastPace(0, 60);
        fox.row(0, 4, 0);
        fox.shut(60, 0);
        fox.help(60, 0);
        fox.allIt();
        fox.meet(0, 1);
        fox.rests(0, 1, 20, 0);
        fox.open(0, 60, 0);
        fox.close(100, 0);
        fox.ruled(0);
        fox.look(60, 0);
        fox.mornings(10, 60, 100, 0);
        int[] want = {10, 3, 2, 3, 2, 0, -1, 1, 102, 2, 1, 0, 1, 0, 0};
        for (int what = 0; what < want.length; what++) {
            due("asked: count(" + what + ")", fox.count(what), want[what]);
        }
        int[] riders = {99, 4, 0, 0, 94, 2, 2, 1, 97, 3, 0, 0};
        for (int i = 0; i < riders.length; i++) {
            due("asked: rider(" + i / 4 + ", " + i % 4 + ")", fox.rider(i / 4, i % 4), riders[i]);
        }
        due("the rider of a row rides by the rule again", fox.ahead(0, 1, 1), 102);
    }

    private static void byTheRuleInForce() {
        FoxReply fox = Due.hunted(THREE);
        Due.rule(fox, "ride 0 if rider = 2;ride pace");
        fox.force(0);
        // Rider 2 stays at 94, where rider 1 comes to.
        due("it(2)", fox.it(2), 0);
        due("leastPace(2, 1): by none", fox.leastPace(2, 1), -2);
        due("row(2, 1, 0): in place of the rule", fox.row(2, 1, 0), 0);
        due("step", fox.step(), 2);
    }
}
