/** Promises 7 to 15: rider, gateAt, step, the other ACTS, undo, last; what the WORDS of RULES mean. */
public final class StepPromiseTest {
    private static final Due DUE = new Due();
    private static final String THREE = "fox 10 3 2;rider 5 4;rider 8 2;rider 6 3;gate 2;gate 7";

    public static void main(String[] args) {
        riderAndGateAt();
        steps();
        turning();
        lastStep();
        words();
        sums();
        testsOfClauses();
        spur();
        hold();
        dig();
        gate();
        undo();
        last();
        DUE.close();
    }

    private static void due(String call, long got, long want) {
        DUE.due(call, got, want);
    }

    /** Runs, then who is to ground, of three RIDERS. */
    private static void dueRiders(String when, FoxReply fox, int... want) {
        for (int i = 0; i < 3; i++) {
            due(when + ": rider(" + i + ", 0)", fox.rider(i, 0), want[i]);
            due(when + ": rider(" + i + ", 2)", fox.rider(i, 2), want[i + 3]);
        }
    }

    private static void riderAndGateAt() {
        FoxReply fox = Due.hunted(THREE);
        due("rider(1, 0)", fox.rider(1, 0), 92);
        due("rider(1, 1)", fox.rider(1, 1), 2);
        due("rider(1, 4)", fox.rider(1, 4), -1);
        due("rider(1, -1)", fox.rider(1, -1), -1);
        due("rider(3, 0)", fox.rider(3, 0), -1);
        due("rider(-1, 0)", fox.rider(-1, 0), -1);
        due("gateAt(2)", fox.gateAt(2), 1);
        due("gateAt(3)", fox.gateAt(3), 0);
        due("gateAt(10)", fox.gateAt(10), -1);
        due("gateAt(-1)", fox.gateAt(-1), -1);
        due("gateAt(max)", fox.gateAt(Integer.MAX_VALUE), -1);
    }

    private static void steps() {
        FoxReply fox = Due.hunted(THREE);
        due("step 0", fox.step(), 1);
        dueRiders("behind 0", fox, 99, 94, 97, 0, 2, 0);
        due("fox", fox.count(8), 102);
        due("out", fox.count(9), 2);
        due("was", fox.rider(1, 3), 1);
        due("step 1: no gate", fox.step(), -1);
        // Rider 0 rides no farther than the fox has run as the step begins.
        dueRiders("behind 1", fox, 102, 94, 100, 0, 1, 0);
        due("fox", fox.count(8), 105);
        // Rider 1 is up again as the fox comes to the gate, but has not ridden.
        due("step 2", fox.step(), 1);
        dueRiders("behind 2", fox, 105, 94, 103, 0, 2, 0);
        due("fox", fox.count(8), 107);
        due("step 3", fox.step(), -1);
        dueRiders("behind 3", fox, 107, 94, 106, 0, 1, 0);
        due("step 4", fox.step(), 1);
        due("count(7)", fox.count(7), 5);
        due("count(8)", fox.count(8), 112);
        due("count(10)", fox.count(10), 3);
        due("count(12)", fox.count(12), 5);
        due("rider(1, 3)", fox.rider(1, 3), 3);
    }

    private static void turning() {
        // Only a gate where he stands: he comes round to it, in twos, and stops there.
        FoxReply fox = Due.hunted("fox 5 2 1;rider 1 1;rider 1 1;gate 0");
        due("step", fox.step(), -1);
        due("step", fox.step(), -1);
        // Alike: the one of greatest number.
        due("step to 105", fox.step(), 1);
        due("count(8)", fox.count(8), 105);
        // Law 0: nobody goes to ground, and the same can be it at once again.
        FoxReply none = Due.hunted("fox 2 1 0;rider 9 1;gate 0;gate 1");
        due("law 0", none.step(), 0);
        due("count(9)", none.count(9), 0);
        due("law 0", none.step(), 0);
        due("rider(0, 0)", none.rider(0, 0), 93);
        due("rider(0, 3)", none.rider(0, 3), 2);
        // All to ground: nobody is it, and no riders at all.
        FoxReply all = Due.hunted("fox 2 1 3;rider 9 1;gate 0;gate 1");
        due("it", all.step(), 0);
        due("to ground", all.step(), -1);
        due("to ground", all.step(), -1);
        due("up", all.step(), 0);
        due("nobody there", Due.hunted("fox 2 1 3;gate 0;gate 1").step(), -1);
        // A gate as far as his pace is reached, one beyond is not.
        due("as far", Due.hunted("fox 50 4 3;rider 9 1;gate 4").step(), 0);
        due("beyond", Due.hunted("fox 50 3 3;rider 9 1;gate 4").step(), -1);
    }

    private static void lastStep() {
        FoxReply fox = Due.hunted("fox 2 1 0;rider 9 9");
        for (int i = 0; i < 999; i++) {
            if (fox.step() != -1) {
                due("step " + i, 0, -1);
            }
        }
        due("step in 999", fox.step(), -2);
        due("count(7)", fox.count(7), 999);
        due("count(8)", fox.count(8), 1099);
        due("count(12)", fox.count(12), 20);
        due("asked beyond", fox.ahead(0, 100, 0), 1199);
        Due.rule(fox, "ride 9 if step > 1000;ride 0");
        fox.force(0);
        due("rider(0, 0)", fox.rider(0, 0), 1098);
        due("the word step beyond", fox.ahead(0, 2, 1), 1098);
        due("the word step beyond", fox.ahead(0, 3, 1), 1101);
    }

    /** How far three RIDERS go in one STEP by a RULE, as digits. */
    private static int moves(FoxReply fox, String rule) {
        int number = Due.rule(fox, rule);
        due("rule " + rule, number < 0 ? number : 0, 0);
        fox.force(number);
        int digits = 0;
        for (int i = 0; i < 3; i++) {
            digits = digits * 10 + fox.ahead(i, 1, 1) - fox.rider(i, 0);
        }
        return digits;
    }

    private static void dueMoves(String rule, int want) {
        FoxReply fox = Due.hunted("fox 20 3 2;rider 50 9;rider 50 9;rider 60 7;gate 5;gate 0");
        due(rule, moves(fox, rule), want);
    }

    private static void words() {
        dueMoves("ride rider", 12);
        dueMoves("ride pace - 2", 775);
        dueMoves("ride gap / 10", 556);
        dueMoves("ride behind", 110);
        dueMoves("ride level", 110);
        dueMoves("ride out + was", 0);
        dueMoves("ride gate", 555);
        dueMoves("ride foxpace", 333);
        dueMoves("ride law", 222);
        dueMoves("ride step", 0);
        FoxReply fox = Due.hunted("fox 20 3 2;rider 50 9;rider 50 9;rider 60 7;gate 3");
        fox.step();
        due("ride out", moves(fox, "ride out * 3"), 330);
        due("ride step", moves(fox, "ride step + 1"), 220);
        due("ride behind: not those to ground", moves(fox, "ride behind + 4"), 440);
        // The only gate is where the fox stands: a whole round away.
        due("ride gate", moves(fox, "ride gate - 15"), 550);
        fox.gate(3);
        due("ride gate without", moves(fox, "ride gate - 95"), 440);
        fox.dig(2);
        due("ride was", moves(fox, "ride was * 2"), 2);
    }

    private static void sums() {
        dueMoves("ride 2 + 3 * 2", 887);
        dueMoves("ride 9 - 3 - 2", 444);
        dueMoves("ride 9 - 6 / 2 * 2 + 1", 444);
        dueMoves("ride 17 % 10 / 2", 333);
        dueMoves("ride 7 / 0 + 3", 333);
        dueMoves("ride 7 % 0 + 3", 333);
        dueMoves("ride 0 - 3", 0);
        dueMoves("ride 99999", 997);
        // Sixty-four bits go round.
        dueMoves("ride 5 if 99999*99999*99999*9999 < 0;ride 2", 555);
        dueMoves("ride 5 if 99999*99999*99999*9999 % 1000 < 0;ride 2", 555);
        dueMoves("ride 99999*99999*99999*9000", 997);
        FoxReply near = Due.hunted("fox 20 9 2;rider 2 9;rider 0 9;rider 60 7");
        due("never farther than the fox", moves(near, "ride 9"), 207);
    }

    private static void testsOfClauses() {
        dueMoves("ride 1 if rider = 0;ride 2 if rider = 1;ride 3", 123);
        dueMoves("ride 1 if rider = 0;ride 2 if rider = 1", 120);
        dueMoves("ride 4;ride 5", 444);
        dueMoves("ride 1 if rider < 1", 100);
        dueMoves("ride 1 if rider <= 1", 110);
        dueMoves("ride 1 if rider >= 1", 11);
        dueMoves("ride 1 if rider > 1", 1);
        dueMoves("ride 1 if not rider = 1", 101);
        dueMoves("ride 1 if not not rider = 1", 10);
        dueMoves("ride 1 if not rider = 1 and rider = 2", 1);
        dueMoves("ride 1 if not [rider = 1 and rider = 2]", 111);
        dueMoves("ride 1 if not [rider = 1 or rider = 2]", 100);
        dueMoves("ride 1 if rider = 0 or rider = 1 and pace = 7", 100);
        dueMoves("ride 1 if [rider = 0 or rider = 2] and pace = 7", 1);
        dueMoves("ride 1 if rider = 0 and pace = 7 or rider = 1", 10);
        dueMoves("ride 1 if rider + 1 * 2 = 2 + rider * rider * 0", 100);
        FoxReply fox = Due.hunted("fox 20 3 2;rider 50 9;rider 50 9;rider 60 7");
        due("by how it is as the step begins", moves(fox, "ride 9 if rider = 2;ride 1 + behind"), 227);
    }

    private static void spur() {
        FoxReply fox = Due.hunted(THREE);
        due("spur(0, 9)", fox.spur(0, 9), 4);
        due("rider(0, 1)", fox.rider(0, 1), 9);
        due("spur(0, 9) again", fox.spur(0, 9), -1);
        due("spur(0, 0)", fox.spur(0, 0), -1);
        due("spur(0, 10)", fox.spur(0, 10), -1);
        due("spur(3, 1)", fox.spur(3, 1), -1);
        due("spur(-1, 1)", fox.spur(-1, 1), -1);
        due("spur(0, 1)", fox.spur(0, 1), 9);
        due("count(12)", fox.count(12), 2);
        fox.step();
        due("rider(0, 0)", fox.rider(0, 0), 96);
        due("spur of one to ground", fox.spur(1, 3), 2);
    }

    private static void hold() {
        FoxReply fox = Due.hunted("fox 10 3 2;rider 97 4;rider 99 2;gate 2");
        due("hold(0, 4)", fox.hold(0, 4), -1);
        due("hold(0, 0)", fox.hold(0, 0), -1);
        due("hold(0, 10)", fox.hold(0, 10), -1);
        due("hold(0, -1)", fox.hold(0, -1), -1);
        due("hold(2, 1)", fox.hold(2, 1), -1);
        due("hold(-1, 1)", fox.hold(-1, 1), -1);
        due("hold(0, 1)", fox.hold(0, 1), 2);
        due("hold(0, 2)", fox.hold(0, 2), 0);
        due("hold(0, 1)", fox.hold(0, 1), -1);
        due("count(12)", fox.count(12), 2);
        due("step", fox.step(), 1);
        due("hold of one to ground", fox.hold(1, 1), -1);
        due("rider(1, 0)", fox.rider(1, 0), 3);
        due("hold(0, 4)", fox.hold(0, 4), 0);
        FoxReply one = Due.hunted("fox 2 1 1;rider 9 1;gate 0;gate 1");
        one.step();
        due("to ground for one step", one.count(9), 1);
        due("hold of one to ground for one step", one.hold(0, 1), -1);
        due("dig", one.dig(0), 1);
        due("hold behind dig", one.hold(0, 1), 91);
    }

    private static void dig() {
        FoxReply fox = Due.hunted(THREE);
        due("dig(1)", fox.dig(1), -1);
        fox.step();
        due("dig(0)", fox.dig(0), -1);
        due("dig(3)", fox.dig(3), -1);
        due("dig(-1)", fox.dig(-1), -1);
        due("dig(1)", fox.dig(1), 2);
        due("rider(1, 2)", fox.rider(1, 2), 0);
        due("rider(1, 3)", fox.rider(1, 3), 1);
        due("dig(1) again", fox.dig(1), -1);
        due("count(12)", fox.count(12), 2);
        fox.step();
        due("rider(1, 0)", fox.rider(1, 0), 96);
    }

    private static void gate() {
        FoxReply fox = Due.hunted(THREE);
        due("gate(2)", fox.gate(2), 0);
        due("gateAt(2)", fox.gateAt(2), 0);
        due("gate(10)", fox.gate(10), -1);
        due("gate(-1)", fox.gate(-1), -1);
        due("gate(9)", fox.gate(9), 1);
        due("gate(0)", fox.gate(0), 1);
        due("count(4)", fox.count(4), 3);
        due("count(12)", fox.count(12), 3);
        due("step: no gate", fox.step(), -1);
        FoxReply wide = Due.hunted("fox 60 9 0;rider 0 1");
        due("gate(59)", wide.gate(59), 1);
        due("gateAt(59)", wide.gateAt(59), 1);
        // From field 40, nineteen on.
        due("step", wide.step(), -1);
        due("step", wide.step(), -1);
        due("step", wide.step(), 0);
        due("count(8)", wide.count(8), 119);
    }

    private static void undo() {
        FoxReply fox = Due.hunted(THREE);
        due("undo of nothing", fox.undo(), -1);
        fox.step();
        fox.spur(0, 9);
        fox.hold(0, 3);
        fox.dig(1);
        fox.gate(3);
        Due.rule(fox, "ride 1");
        fox.force(0);
        fox.seed(5);
        fox.note(0, 0, 1);
        due("undo gate", fox.undo(), 4);
        due("gateAt(3)", fox.gateAt(3), 0);
        due("undo dig", fox.undo(), 3);
        due("rider(1, 2)", fox.rider(1, 2), 2);
        due("undo hold", fox.undo(), 2);
        due("rider(0, 0)", fox.rider(0, 0), 99);
        due("undo spur", fox.undo(), 1);
        due("rider(0, 1)", fox.rider(0, 1), 4);
        due("undo step", fox.undo(), 0);
        dueRiders("undone", fox, 95, 92, 94, 0, 0, 0);
        due("was", fox.rider(1, 3), 0);
        due("step", fox.count(7), 0);
        due("fox", fox.count(8), 100);
        due("nothing more", fox.undo(), -1);
        due("what is no act stays: rule", fox.count(6), 0);
        due("what is no act stays: notes", fox.count(11), 1);
        due("what is no act stays: x", fox.count(13), 5);
        for (int i = 0; i < 25; i++) {
            fox.gate(i % 10);
        }
        due("count(12)", fox.count(12), 20);
        for (int i = 19; i >= 0; i--) {
            due("undo", fox.undo(), i);
        }
        due("undo", fox.undo(), -1);
        // Fields 0 to 4 were turned ahead of the last twenty.
        for (int i = 0; i < 10; i++) {
            due("gateAt(" + i + ")", fox.gateAt(i), i < 5 ^ i == 2 ^ i == 7 ? 1 : 0);
        }
    }

    private static void last() {
        FoxReply fox = Due.hunted(THREE);
        due("last()", fox.last(), 1);
        fox.step();
        due("last() but those to ground", fox.last(), 2);
        due("last() of none", Due.hunted("fox 2 1 0").last(), -1);
        due("last() of alike", Due.hunted("fox 2 1 0;rider 3 1;rider 5 1;rider 5 1;rider 4 1").last(), 2);
        FoxReply all = Due.hunted("fox 2 1 3;rider 9 1;gate 0;gate 1");
        all.step();
        due("last() with all to ground", all.last(), -1);
    }
}
