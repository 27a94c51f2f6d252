/** Terms, what WORDS of RULES mean, STEPS and ACTS: each sentence that names an edge. */
public final class StepEdgeTest {
    private static final Edges E = new Edges();

    /** Behind its first STEP rider 2 is to ground for two STEPS. */
    private static final String ONE_DOWN = "fox 20 3 2;rider 50 9;rider 50 9;rider 60 7;gate 3";

    /** Each STEP ends at a gate. */
    private static final String ALL_GATES = ";gate 0;gate 1";

    public static void main(String[] args) {
        wordsOfAll();
        gap();
        behind();
        level();
        out();
        was();
        gateAhead();
        partsAndRests();
        sixtyFourBits();
        asItBegins();
        firstClause();
        leastAndMost();
        withoutRule();
        neverFarther();
        toGround();
        foxRuns();
        gateReached();
        lastIsIt();
        lawSteps();
        runsOn();
        ownGate();
        lastStepByHand();
        acts();
        undone();
        E.close();
    }

    /** How far the RIDERS ride next by a RULE told now. */
    private static void rides(FoxReply fox, String rule, int want) {
        int number = Due.rule(fox, rule);
        fox.force(number);
        E.due("[" + rule + "]", Edges.rides(fox), want);
    }

    private static void wordsOfAll() {
        E.sentence("of a RIDER who is not to ground: rider, pace");
        String six = "fox 20 1 0;rider 50 9;rider 50 9;rider 50 9;rider 50 9;rider 50 9;rider 50 9";
        E.rides(six, "ride rider", 12345);
        E.rides("fox 20 1 0;rider 50 1;rider 50 9", "ride pace - 1 + rider", 9);
        E.rides("fox 20 1 0;rider 50 1;rider 50 9", "ride 1 if pace = 9", 1);

        E.sentence("foxpace, law, step.");
        E.rides("fox 20 1 0;rider 50 9", "ride foxpace", 1);
        E.rides("fox 20 9 0;rider 50 9", "ride foxpace", 9);
        E.rides("fox 20 1 0;rider 50 9", "ride law", 0);
        E.rides("fox 20 1 9;rider 50 9", "ride law", 9);
        FoxReply fox = E.ruled("fox 20 1 0;rider 50 9", "ride step");
        E.due("STEP 0", Edges.rides(fox), 0);
        fox.step();
        E.due("STEP 1", Edges.rides(fox), 1);
        E.due("STEPS 1 to 4, asked", fox.ahead(0, 4, 1), 60);
    }

    private static void gap() {
        E.sentence("gap (fields that the fox has run more)");
        E.rides("fox 20 3 2;rider 0 9;rider 99 9;rider 5 9", "ride gap", 95);
        E.rides("fox 20 3 2;rider 0 9;rider 99 9;rider 5 9", "ride 1 if gap = 99", 10);
        FoxReply level = Due.hunted("fox 20 3 2;rider 0 9");
        level.step();
        rides(level, "ride gap", 3);
    }

    private static void behind() {
        E.sentence("behind (RIDERS not to ground who have run less than they)");
        FoxReply fox = Due.hunted(ONE_DOWN);
        rides(fox, "ride behind", 110);
        fox.force(-1);
        fox.step();
        rides(fox, "ride behind", 0);
        fox.dig(2);
        rides(fox, "ride behind", 110);
        E.rides("fox 9 1 0;rider 20 9;rider 21 9;rider 22 9;rider 23 9;rider 24 9;rider 25 9", "ride behind", 543210);
    }

    private static void level() {
        E.sentence("level (others of these who have run as much)");
        String alike = "fox 20 1 2;rider 50 9;rider 50 9;rider 50 9";
        E.rides(alike, "ride level", 222);
        E.rides("fox 20 1 2;rider 50 9;rider 49 9;rider 50 9", "ride level", 101);
        FoxReply fox = Due.hunted(alike + ";gate 1");
        fox.step();
        E.due("rider 2 is to ground", fox.count(9), 4);
        rides(fox, "ride level", 110);
    }

    private static void out() {
        E.sentence("out (RIDERS to ground)");
        FoxReply fox = Due.hunted(ONE_DOWN);
        rides(fox, "ride out", 0);
        fox.force(-1);
        fox.step();
        rides(fox, "ride out", 110);
        fox.step();
        E.due("for a STEP yet", fox.rider(2, 2), 1);
        rides(fox, "ride out", 110);
        fox.step();
        rides(fox, "ride out", 0);
    }

    private static void was() {
        E.sentence("was (how often they were it)");
        FoxReply fox = E.ruled("fox 2 1 0;rider 50 9;rider 60 9" + ALL_GATES, "ride was");
        E.due("never yet", Edges.rides(fox), 0);
        fox.step();
        E.due("once", Edges.rides(fox), 1);
        fox.step();
        E.due("twice", Edges.rides(fox), 2);
    }

    private static void gateAhead() {
        E.sentence("gate (fields from the fox to the next gate ahead of him, his own if he comes round to it; 99 without)");
        String hunt = "fox 20 3 2;rider 50 9";
        E.rides(hunt + ";gate 1", "ride gate", 1);
        E.rides(hunt + ";gate 19", "ride gate - 15", 4);
        E.rides(hunt + ";gate 0", "ride gate - 15", 5);
        E.rides(hunt + ";gate 0;gate 7", "ride gate", 7);
        E.rides(hunt + ";gate 7;gate 4;gate 9", "ride gate", 4);
        E.rides(hunt, "ride gate - 95", 4);
        E.rides("fox 2 3 2;rider 50 9;gate 0", "ride gate", 2);
        // 60 fields, the fox at 40: the gate just behind him, his own, the last of the round.
        E.rides("fox 60 3 2;rider 50 9;gate 39", "ride gate - 55", 4);
        E.rides("fox 60 3 2;rider 50 9;gate 40", "ride gate - 55", 5);
        E.rides("fox 60 3 2;rider 50 9;gate 59", "ride gate - 15", 4);
        E.rides("fox 60 3 2;rider 50 9;gate 0", "ride gate - 15", 5);
    }

    private static void partsAndRests() {
        E.sentence("/ is towards 0, % its rest, both 0 by 0");
        String hunt = "fox 20 3 2;rider 50 9";
        E.rides(hunt, "ride 7/2", 3);
        E.rides(hunt, "ride 7%4", 3);
        // -2^62 is the only way below 0: a product that went round.
        E.rides(hunt, "ride 1 if 65536*65536*65536*49152/10*10 > 65536*65536*65536*49152", 1);
        E.rides(hunt, "ride 1 if 65536*65536*65536*49152%10 = 0-4", 1);
        E.rides(hunt, "ride 7/0+2", 2);
        E.rides(hunt, "ride 7%0+2", 2);
        E.rides(hunt, "ride 7/step*3+1", 1);
        E.rides(hunt, "ride 0/0+0%0", 0);
    }

    private static void sixtyFourBits() {
        E.sentence("all goes round in 64 bits");
        String hunt = "fox 20 3 2;rider 50 9";
        E.rides(hunt, "ride 1 if 65536*65536*65536*65536 = 0", 1);
        E.rides(hunt, "ride 1 if 65536*65536*65536*32768 < 0", 1);
        E.rides(hunt, "ride 1 if 65536*65536*65536*32768 - 1 > 0", 1);
        E.rides(hunt, "ride 1 if 65536*65536*65536*16384 > 0", 1);
        E.rides(hunt, "ride 1 if 0 - 65536*65536*65536*32768 < 0", 1);
        // The SUM that is ridden keeps all its bits, too.
        E.rides(hunt, "ride 65536*65536", 9);
        E.rides(hunt, "ride 65536*32768", 9);
        E.rides(hunt, "ride 65536*65536*65536*32768 - 1", 9);
        E.rides(hunt, "ride 65536*65536*65536*32768", 0);
        E.rides(hunt, "ride 65536*65536*65536*65536 + 4", 4);
    }

    private static void asItBegins() {
        E.sentence("A STEP: (1) All RIDERS who are not to ground, by how all is as it begins, ride");
        // Rider 0 passes rider 1 in this STEP, and the other way round.
        E.rides("fox 20 3 2;rider 50 9;rider 45 9", "ride 9 if rider = 0;ride behind", 91);
        E.rides("fox 20 3 2;rider 45 9;rider 50 9", "ride 9 if rider = 1;ride behind", 19);
        FoxReply fox = Due.hunted(ONE_DOWN);
        fox.step();
        E.due("who is to ground doesn't", Edges.rides(fox), 990);
        // To ground for one STEP yet: not in that one, either.
        fox.step();
        E.due("for one STEP yet", fox.rider(2, 2), 1);
        E.due("nor then", Edges.rides(fox), 990);
        fox.step();
        E.due("up again", Edges.rides(fox), 997);
    }

    private static void firstClause() {
        E.sentence("the SUM of the RULE IN FORCE's first CLAUSE without a TEST, or whose TEST holds (0 without), fields");
        String hunt = "fox 20 3 2;rider 50 9;rider 50 9;rider 50 9";
        E.rides(hunt, "ride 1;ride 2", 111);
        E.rides(hunt, "ride 1 if rider = 0;ride 2 if rider <= 1;ride 3;ride 4", 123);
        E.rides(hunt, "ride 1 if rider = 0;ride 2 if rider = 1", 120);
        E.rides(hunt, "ride 1 if 1 = 2", 0);
        E.rides(hunt, "ride 1 if not rider = 1 and rider = 2", 1);
        E.rides(hunt, "ride 1 if rider = 0 or rider = 1 and 1 = 2", 100);
        E.rides(hunt, "ride 1 if [rider = 0 or rider = 1] and rider = 1", 10);
        FoxReply fox = Due.hunted(hunt);
        Due.rule(fox, "ride 1");
        Due.rule(fox, "ride 2");
        fox.force(1);
        E.due("the one IN FORCE", Edges.rides(fox), 222);
    }

    private static void leastAndMost() {
        E.sentence("at least 0, at most their PACE");
        String hunt = "fox 20 3 2;rider 50 9;rider 50 1;rider 50 4";
        E.rides(hunt, "ride 0-1", 0);
        E.rides(hunt, "ride 0", 0);
        E.rides(hunt, "ride pace-1", 803);
        E.rides(hunt, "ride pace", 914);
        E.rides(hunt, "ride pace+1", 914);
        E.rides(hunt, "ride 99999", 914);
        E.rides(hunt, "ride 0-99999", 0);
    }

    private static void withoutRule() {
        E.sentence("without a RULE their PACE");
        FoxReply fox = E.ruled("fox 20 3 2;rider 50 9;rider 50 1;rider 50 4", "ride 0");
        E.due("by a RULE", Edges.rides(fox), 0);
        fox.force(-1);
        E.due("without", Edges.rides(fox), 914);
    }

    private static void neverFarther() {
        E.sentence("and never farther than the fox has run.");
        String hunt = "fox 20 9 2;rider 0 9;rider 1 9;rider 8 9;rider 9 9";
        FoxReply fox = Due.hunted(hunt);
        E.due("to where he is as it begins", Edges.rides(fox), 189);
        E.rides(hunt, "ride 5", 155);
        fox.step();
        E.due("level with where he was", fox.rider(1, 0), 100);
        E.due("and then to where he is", Edges.rides(fox), 9999);
    }

    private static void toGround() {
        E.sentence("(2) RIDERS to ground are so for a STEP less.");
        // Up again by (2), they are LAST by (3), and have not ridden by (1).
        FoxReply one = Due.hunted("fox 2 1 1;rider 9 1" + ALL_GATES);
        for (int i = 0; i < 5; i++) {
            E.due("step " + i, one.step(), 0);
            E.due("rider(0, 0)", one.rider(0, 0), 92);
            E.due("rider(0, 2)", one.rider(0, 2), 1);
        }
        FoxReply nine = Due.hunted("fox 60 1 9;rider 9 1;gate 41");
        nine.step();
        for (int left = 9; left > 0; left--) {
            E.due("for " + left, nine.rider(0, 2), left);
            nine.step();
        }
        E.due("up", nine.rider(0, 2), 0);
        nine.step();
        E.due("not below 0", nine.rider(0, 2), 0);
    }

    private static void foxRuns() {
        E.sentence("(3) The fox runs his PACE, but to the first gate ahead of him at most, if that is not farther.");
        String[] hunts = {"fox 50 4 0;rider 9 1", "fox 50 4 0;rider 9 1;gate 5", "fox 50 4 0;rider 9 1;gate 4",
            "fox 50 4 0;rider 9 1;gate 3;gate 4", "fox 50 4 0;rider 9 1;gate 1"};
        int[] runs = {104, 104, 104, 103, 101};
        int[] its = {-1, -1, 0, 0, 0};
        for (int i = 0; i < runs.length; i++) {
            FoxReply fox = Due.hunted(hunts[i]);
            E.due(hunts[i] + ": step()", fox.step(), its[i]);
            E.due(hunts[i] + ": count(8)", fox.count(8), runs[i]);
        }
        // Over the end of the round: from field 40 of 60 by nines to 49, 58 and, three on, to field 1.
        FoxReply over = Due.hunted("fox 60 9 0;rider 9 1;gate 1");
        E.due("to 109", over.step(), -1);
        E.due("to 118", over.step(), -1);
        E.due("to 121", over.step(), 0);
        E.due("count(8)", over.count(8), 121);
    }

    private static void gateReached() {
        E.sentence("Is he at a gate then, he turns");
        FoxReply fox = Due.hunted("fox 50 4 0;rider 9 1;gate 5;gate 8");
        E.due("a field short", fox.step(), -1);
        E.due("nobody was it", fox.count(10), 0);
        E.due("to it", fox.step(), 0);
        E.due("was it", fox.count(10), 1);
        E.due("to the next, not beyond", fox.step(), 0);
        E.due("there", fox.count(8), 108);
        // Only where he is behind (3) counts: a gate that he stands at as a STEP begins is left.
        E.due("on from there", fox.step(), -1);
        fox.gate(12);
        E.due("a gate made where he stands", fox.step(), -1);
        E.due("was it twice", fox.count(10), 2);
    }

    private static void lastIsIt() {
        E.sentence("of the RIDERS who are not to ground the LAST, who has run least, of several the one of greatest number, is IT");
        E.due("least", Due.hunted("fox 2 1 0;rider 9 1;rider 10 1;rider 8 1" + ALL_GATES).step(), 1);
        E.due("of several", Due.hunted("fox 2 1 0;rider 9 1;rider 9 1;rider 8 1" + ALL_GATES).step(), 1);
        E.due("of all", Due.hunted("fox 2 1 0;rider 9 1;rider 9 1;rider 9 1" + ALL_GATES).step(), 2);
        // By how far they have run behind (1).
        E.due("overtaken", Due.hunted("fox 2 1 0;rider 9 1;rider 12 9" + ALL_GATES).step(), 0);
        FoxReply three = Due.hunted("fox 2 1 5;rider 9 1;rider 10 1;rider 8 1" + ALL_GATES);
        E.due("first", three.step(), 1);
        E.due("then", three.step(), 0);
        E.due("then", three.step(), 2);
        E.due("all to ground: nobody", three.step(), -1);
        E.due("nor was", three.count(10), 3);
        E.due("no RIDERS: nobody", Due.hunted("fox 2 1 5" + ALL_GATES).step(), -1);
    }

    private static void lawSteps() {
        E.sentence("to ground for LAW STEPS (0: for none), and was it once more");
        FoxReply none = Due.hunted("fox 2 1 0;rider 9 1" + ALL_GATES);
        none.step();
        E.due("law 0: rider(0, 2)", none.rider(0, 2), 0);
        E.due("law 0: count(9)", none.count(9), 0);
        E.due("law 0: rides on", Edges.rides(none), 1);
        E.due("was it", none.rider(0, 3), 1);
        none.step();
        E.due("was it twice", none.rider(0, 3), 2);
        FoxReply nine = Due.hunted("fox 2 1 9;rider 9 1" + ALL_GATES);
        nine.step();
        E.due("law 9: rider(0, 2)", nine.rider(0, 2), 9);
    }

    private static void runsOn() {
        E.sentence("he runs on from there");
        FoxReply fox = Due.hunted("fox 50 5 0;rider 9 1;gate 2");
        fox.step();
        E.due("at the gate", fox.count(8), 102);
        fox.step();
        E.due("his PACE from there", fox.count(8), 107);
    }

    private static void ownGate() {
        E.sentence("(Where he stands as a STEP begins is no gate ahead of him.)");
        FoxReply fox = Due.hunted("fox 50 3 0;rider 9 1;gate 0");
        E.due("step()", fox.step(), -1);
        E.due("count(8)", fox.count(8), 103);
        // But he comes round to it, two fields on, in one STEP.
        FoxReply round = Due.hunted("fox 2 9 0;rider 9 1;gate 0");
        E.due("step() round", round.step(), 0);
        E.due("count(8) round", round.count(8), 102);
        FoxReply far = Due.hunted("fox 10 9 0;rider 9 1;gate 0");
        E.due("nine of ten", far.step(), -1);
        E.due("the tenth", far.step(), 0);
        E.due("count(8) of ten", far.count(8), 110);
    }

    /** More calls than the document promises of one object: it is the only way to STEP 999. */
    private static void lastStepByHand() {
        E.sentence("STEP is 1 more (999 at most by hand; STEPS that are asked go on beyond).");
        FoxReply fox = E.ruled("fox 2 1 0;rider 9 9", "ride step - 1000");
        for (int i = 0; i < 998; i++) {
            fox.step();
        }
        E.due("in STEP 998", fox.count(7), 998);
        E.due("step()", fox.step(), -1);
        E.due("in STEP 999", fox.count(7), 999);
        E.due("step()", fox.step(), -2);
        E.due("count(7)", fox.count(7), 999);
        E.due("count(8)", fox.count(8), 1099);
        E.due("the fox asked", fox.ahead(0, 100, 0), 1199);
        // In STEP 1001 one field, in 1002 two.
        E.due("STEPS 999 to 1001", fox.ahead(0, 3, 1), 92);
        E.due("STEPS 999 to 1002", fox.ahead(0, 4, 1), 94);
    }

    private static void acts() {
        E.sentence("SPUR (a RIDER has another PACE, 1 to 9)");
        FoxReply fox = Due.hunted("fox 2 1 3;rider 91 5;rider 0 5" + ALL_GATES);
        E.due("to 9", fox.spur(0, 9), 5);
        E.due("to 9 again", fox.spur(0, 9), -1);
        E.due("to 10", fox.spur(0, 10), -1);
        E.due("to 1", fox.spur(0, 1), 9);
        E.due("to 0", fox.spur(0, 0), -1);
        E.due("pace", fox.rider(0, 1), 1);

        E.sentence("HOLD (a RIDER not to ground, who has run that many, has run so many fields less, 1 to 9)");
        E.due("by 0", fox.hold(0, 0), -1);
        E.due("by 1", fox.hold(0, 1), 8);
        E.due("by 9 of 8", fox.hold(0, 9), -1);
        E.due("by 8 of 8", fox.hold(0, 8), 0);
        E.due("by 1 of 0", fox.hold(0, 1), -1);
        E.due("by 9", fox.hold(1, 9), 91);
        E.due("by 10", fox.hold(1, 10), -1);
        fox.step();
        E.due("rider 0 is to ground", fox.count(9), 1);
        E.due("has run", fox.rider(0, 0), 1);
        E.due("to ground", fox.hold(0, 1), -1);
        FoxReply last = Due.hunted("fox 60 1 2;rider 9 1;gate 41");
        Edges.steps(last, 2);
        E.due("for one STEP yet", last.rider(0, 2), 1);
        E.due("to ground yet", last.hold(0, 1), -1);

        E.sentence("DIG (a RIDER to ground is so no more)");
        E.due("dig", fox.dig(0), 3);
        E.due("up", fox.rider(0, 2), 0);
        E.due("was it all the same", fox.rider(0, 3), 1);
        E.due("not to ground", fox.dig(0), -1);
        E.due("held back again", fox.hold(0, 1), 0);
        FoxReply one = Due.hunted("fox 2 1 1;rider 9 1" + ALL_GATES);
        one.step();
        E.due("for one STEP yet", one.dig(0), 1);

        E.sentence("GATE (of a field: it is one, if it was none, none, if it was one)");
        FoxReply wide = Due.hunted("fox 60 1 0;gate 59");
        E.due("none", wide.gate(59), 0);
        E.due("gateAt(59)", wide.gateAt(59), 0);
        E.due("one", wide.gate(59), 1);
        E.due("gateAt(59)", wide.gateAt(59), 1);
        E.due("one", wide.gate(0), 1);
        E.due("count(4)", wide.count(4), 2);
    }

    private static void undone() {
        E.sentence("ACTS: a STEP; SPUR");
        FoxReply each = Due.hunted("fox 60 1 9;rider 9 5;rider 5 5;gate 41");
        each.step();
        each.spur(1, 9);
        each.hold(1, 4);
        each.dig(0);
        each.gate(5);
        E.due("five", each.count(12), 5);
        E.due("GATE undone", each.undo(), 4);
        E.due("its gate", each.gateAt(5), 0);
        E.due("DIG is there", each.rider(0, 2), 0);
        E.due("DIG undone", each.undo(), 3);
        E.due("to ground", each.rider(0, 2), 9);
        E.due("HOLD is there", each.rider(1, 0), 96);
        E.due("HOLD undone", each.undo(), 2);
        E.due("how far", each.rider(1, 0), 100);
        E.due("SPUR is there", each.rider(1, 1), 9);
        E.due("SPUR undone", each.undo(), 1);
        E.due("PACE", each.rider(1, 1), 5);
        E.due("the STEP is there", each.count(7), 1);
        E.due("the STEP undone", each.undo(), 0);
        E.due("STEP", each.count(7), 0);
        E.due("the fox", each.count(8), 100);
        E.due("was it", each.count(10), 0);
        E.due("to ground no more", each.count(9), 0);

        E.sentence("The last 20 can be UNDONE, the last first.");
        FoxReply fox = Due.hunted("fox 60 1 9;rider 9 5;gate 41");
        for (int i = 0; i < 20; i++) {
            fox.gate(i);
            E.due("count(12)", fox.count(12), i + 1);
        }
        fox.step();
        E.due("twenty-one: count(12)", fox.count(12), 20);
        E.due("undo the step", fox.undo(), 19);
        E.due("the fox", fox.count(8), 100);
        E.due("the rider", fox.rider(0, 0), 91);
        E.due("nobody to ground", fox.count(9), 0);
        for (int i = 19; i > 0; i--) {
            E.due("gateAt(" + i + ")", fox.gateAt(i), 1);
            E.due("undo gate " + i, fox.undo(), i - 1);
            E.due("gateAt(" + i + ") undone", fox.gateAt(i), 0);
        }
        E.due("the first of all", fox.undo(), -1);
        E.due("it stays", fox.gateAt(0), 1);
        // Refused ones are none.
        fox.gate(60);
        fox.spur(0, 5);
        fox.hold(0, 10);
        fox.dig(0);
        E.due("count(12) of refused ones", fox.count(12), 0);
    }
}
