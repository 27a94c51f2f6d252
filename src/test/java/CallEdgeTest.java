/** Promises 1 to 36: each sentence that names an edge or a call that is refused. */
public final class CallEdgeTest {
    private static final Edges E = new Edges();
    private static final int MIN = Integer.MIN_VALUE;
    private static final int MAX = Integer.MAX_VALUE;

    /** The fox comes to a gate in STEP 0, when rider 1 is LAST. */
    private static final String THREE = "fox 10 3 2;rider 5 4;rider 8 2;rider 6 3;gate 2;gate 7";

    public static void main(String[] args) {
        calls();
        newObject();
        feed();
        end();
        hunt();
        huntFault();
        rule();
        force();
        rider();
        gateAt();
        step();
        spur();
        hold();
        dig();
        gate();
        undo();
        last();
        ahead();
        it();
        leastPace();
        row();
        shut();
        help();
        allIt();
        meet();
        bunches();
        pence();
        rests();
        open();
        close();
        note();
        ruled();
        look();
        seed();
        mornings();
        count();
        image();
        back();
        sixRiders();
        E.close();
    }

    private static FoxReply three() {
        return Due.hunted(THREE);
    }

    /** Rider 1 is to ground, a RULE is there and one IN FORCE, a NOTE is told, two ACTS can be UNDONE. */
    private static FoxReply busy() {
        FoxReply fox = three();
        Due.rule(fox, "ride 1");
        Due.rule(fox, "ride 2");
        fox.step();
        fox.gate(0);
        fox.force(1);
        fox.note(1, 0, 99);
        fox.seed(4321);
        fox.feed(1, 2, 3, 4, 5);
        return fox;
    }

    private static void calls() {
        E.sentence("An object is used for at most 512 calls after it has been made");
        FoxReply fox = new FoxReply();
        fox.feed(0x666F7820, 0x31302033, 0x20323B72, 0x69646572, 0x20352034);
        fox.hunt();
        Edges.steps(fox, 509);
        E.due("the 512th", fox.count(7), 509);

        E.sentence("The constants: `NONE = -1`: None.");
        E.due("NONE", FoxReply.NONE, -1);
    }

    private static void newObject() {
        E.sentence("`FoxReply()`: No HUNT, no RULES, none IN FORCE.");
        FoxReply fox = new FoxReply();
        E.due("last(): no HUNT", fox.last(), -2);
        E.due("step(): no HUNT", fox.step(), -2);
        E.due("ruled(0): no HUNT", fox.ruled(0), -3);
        E.due("count(3)", fox.count(3), 0);
        E.due("count(5): no RULES", fox.count(5), 0);
        E.due("force(0): no RULES", fox.force(0), -2);
        E.due("count(6): none IN FORCE", fox.count(6), -1);
        E.due("force(NONE): none was", fox.force(-1), -1);
        E.due("undo()", fox.undo(), -1);
        E.due("count(14): no TAPE", fox.count(14), 0);
        E.due("count(13): x", fox.count(13), 0);
        E.due("back(0): no IMAGE", fox.back(0), -1);
    }

    private static void feed() {
        E.sentence("Twenty bytes come behind the TAPE, of each number the highest first: how many it has");
        FoxReply fox = new FoxReply();
        E.due("twenty", fox.feed(0x666F7820, 0x31302033, 0x20323B72, 0x69646572, 0x20352034), 20);
        E.due("forty", fox.feed(0x3B676174, 0x65203220, 0x20202020, 0x20202020, 0x20202020), 40);
        E.due("their order", fox.hunt(), 1);
        E.due("its gate", fox.gateAt(2), 1);
        E.due("behind an end", fox.feed(0, 0, 0, 0, 0) + fox.end(3) + fox.feed(0, 0, 0, 0, 0), 20 + 3 + 23);

        E.sentence("NONE, and none comes, if it would have more than 400");
        FoxReply full = new FoxReply();
        for (int i = 1; i <= 20; i++) {
            E.due("feed " + i, full.feed(MAX, MIN, -1, 0, 1), 20 * i);
        }
        E.refused(full, "feed at 400", f -> f.feed(0, 0, 0, 0, 0), -1);
        full.end(381);
        E.refused(full, "feed at 381", f -> f.feed(0, 0, 0, 0, 0), -1);
        E.due("count(14)", full.count(14), 381);
        full.end(380);
        E.due("feed at 380", full.feed(0, 0, 0, 0, 0), 400);
        // What was refused isn't there: blanks up to 381 bytes, and no more.
        FoxReply blanks = Due.hunted("fox 2 1 0");
        Due.tell(blanks, "fox 3 1 0" + " ".repeat(372));
        blanks.feed(-1, -1, -1, -1, -1);
        E.due("none came", blanks.hunt(), 0);
        E.due("the new hunt", blanks.count(0), 3);
    }

    private static void end() {
        E.sentence("The TAPE has its first n bytes alone: n");
        FoxReply fox = new FoxReply();
        fox.feed(0x666F7820, 0x32203120, 0x30785858, 0, 0);
        E.due("end(20): all", fox.end(20), 20);
        E.due("end(9)", fox.end(9), 9);
        E.due("the first nine", fox.hunt(), 0);
        fox.feed(1, 2, 3, 4, 5);
        E.due("end(0)", fox.end(0), 0);
        E.due("count(14)", fox.count(14), 0);
        // What was cut off is not read, whatever it goes on by.
        cutHunt("fox 2 1 0" + "9", 9, 0);
        cutHunt("fox 2 1 0" + ";gate 1", 9, 0);
        cutHunt("fox 2 1 0", 3, -2 - (1 + 8 * 3));
        cutRule("ride gap" + "s", 8, 0);
        cutRule("ride 1" + "23456", 6, 0);
        cutRule("ride 1 if 1<" + "=2", 12, -2 - (1 + 8 * 12));
        cutRule("ride 1 if 1>" + "=2", 12, -2 - (1 + 8 * 12));
        // Nor is there anything behind 400 bytes.
        cutRule("ride" + " ".repeat(393) + "gap", 400, 0);
        cutRule("ride 1 if" + " ".repeat(388) + "1 <", 400, -2 - (1 + 8 * 400));
        cutHunt("fox 2 1" + " ".repeat(392) + "0", 400, 0);

        E.sentence("NONE, and nothing happens, if it has not so many, or n is below 0");
        E.refused(busy(), "end(21)", f -> f.end(21), -1);
        E.refused(busy(), "end(-1)", f -> f.end(-1), -1);
        E.refused(busy(), "end(min)", f -> f.end(MIN), -1);
        E.refused(busy(), "end(max)", f -> f.end(MAX), -1);
        E.due("an empty one", new FoxReply().end(0), 0);
        E.due("an empty one", new FoxReply().end(1), -1);
    }

    private static void cutHunt(String text, int n, int want) {
        FoxReply fox = new FoxReply();
        Due.tell(fox, text);
        E.due("end(" + n + ") of [" + text + "]", fox.end(n), n);
        E.due("hunt()", fox.hunt(), want);
    }

    private static void cutRule(String text, int n, int want) {
        FoxReply fox = new FoxReply();
        Due.tell(fox, text);
        E.due("end(" + n + ") of [" + text + "]", fox.end(n), n);
        E.due("rule()", fox.rule(), want);
    }

    private static void hunt() {
        E.sentence("The TAPE, which is empty then, is the HUNT in place of the one there was");
        FoxReply fox = busy();
        Due.tell(fox, "fox 7 2 1;rider 3 5");
        E.due("hunt()", fox.hunt(), 1);
        E.due("the TAPE", fox.count(14), 0);
        E.due("ROUND", fox.count(0), 7);
        E.due("RIDERS", fox.count(3), 1);
        E.due("rider 1 is gone", fox.rider(1, 0), -1);
        E.due("gates are gone", fox.count(4), 0);
        E.due("STEP", fox.count(7), 0);
        E.due("the fox", fox.count(8), 100);
        E.due("nobody to ground", fox.count(9), 0);
        E.due("nobody was it", fox.count(10), 0);

        E.sentence("(no NOTES, nothing to be UNDONE; the RULE IN FORCE and x stay)");
        E.due("NOTES", fox.count(11), 0);
        E.due("ACTS", fox.count(12), 0);
        E.due("undo()", fox.undo(), -1);
        E.due("IN FORCE", fox.count(6), 1);
        E.due("RULES", fox.count(5), 2);
        E.due("x", fox.count(13), 4321);

        E.sentence("how many RIDERS; -2 - its FAULT, and all stays.");
        E.due("none", Due.hunt(new FoxReply(), "fox 2 1 0"), 0);
        E.due("six", Due.hunt(new FoxReply(), "fox 2 1 0" + ";rider 0 1".repeat(6)), 6);
        E.due("an empty TAPE", new FoxReply().hunt(), -3);
    }

    /** All but the TAPE, which is empty then: see NOTES.md. */
    private static void huntFault() {
        E.sentence("-2 - its FAULT, and all stays.");
        FoxReply fox = busy();
        fox.end(0);
        String before = Edges.state(fox);
        E.due("hunt()", Due.hunt(fox, "fox 9 1 0;rider 9 1;gate 1;gate 9"), -2 - (1 + 8 * 32 + 1));
        E.due("all stays", before.equals(Edges.state(fox)) ? 1 : 0, 1);
        E.due("the TAPE is empty", fox.count(14), 0);
        E.due("what can be undone, too", fox.undo(), 1);
        E.due("the gate is shut again", fox.gateAt(0), 0);
        FoxReply none = new FoxReply();
        E.due("hunt() of none", Due.hunt(none, "fox 9 1"), -2 - (1 + 8 * 7));
        E.due("no HUNT still", none.last(), -2);
        // A text is read by itself, whatever was read before.
        Due.hunt(none, "fox 2 1 0" + ";rider 0 1".repeat(7));
        E.due("a HUNT behind a FAULT", Due.hunt(none, "fox 2 1 0" + ";rider 0 1".repeat(6)), 6);
        Due.hunt(none, "fox 2 1 0" + ";gate 1".repeat(40));
        E.due("as many CLAUSES anew", Due.hunt(none, "fox 2 1 0" + ";gate 1".repeat(39)), 0);
    }

    private static void rule() {
        E.sentence("The TAPE, which is empty then, is a RULE: its number; -2 - its FAULT");
        FoxReply fox = three();
        E.due("the first", Due.rule(fox, "ride 1"), 0);
        E.due("the TAPE", fox.count(14), 0);
        E.due("not IN FORCE by that", fox.count(6), -1);
        E.due("a FAULT", Due.rule(fox, "ride 1;"), -2 - (1 + 8 * 7));
        E.due("the TAPE", fox.count(14), 0);
        E.due("none came by it", fox.count(5), 1);
        E.due("an empty TAPE", fox.rule(), -3);
        E.due("the second", Due.rule(fox, "ride 1"), 1);
        E.due("the HUNT is as it was", fox.count(0), 10);
        ruleAnew();

        E.sentence("NONE, and nothing happens: there are 6.");
        for (int i = 2; i <= 5; i++) {
            E.due("rule " + i, Due.rule(fox, "ride 1"), i);
        }
        Due.tell(fox, "ride 2");
        E.refused(fox, "a seventh", FoxReply::rule, -1);
        E.due("the TAPE stays", fox.count(14), 6);
        Due.tell(fox, "ride");
        E.refused(fox, "a seventh that has a FAULT", FoxReply::rule, -1);
        fox.end(0);
        E.refused(fox, "a seventh of no bytes", FoxReply::rule, -1);
    }

    /** A text is read by itself, whatever was read before: all limits begin anew. */
    private static void ruleAnew() {
        FoxReply fox = Due.hunted("fox 60 1 0;rider 50 9");
        String deep = "ride 1 if " + "[".repeat(10) + "1=1";
        String wide = "ride 1" + "+0".repeat(59);
        String many = "ride 0 if 1=2;".repeat(11) + "ride 3";
        E.due("left ten deep", Due.rule(fox, deep), -2 - (1 + 8 * 23));
        E.due("left ten deep by not", Due.rule(fox, "ride 1 if " + "not ".repeat(10)), -2 - (1 + 8 * 50));
        E.due("left behind a VALUE", Due.rule(fox, "ride 1"), 0);
        E.due("and then a sign", Due.rule(fox, "+1"), -2 - 1);
        E.due("ten deep", Due.rule(fox, deep + "]".repeat(10)), 1);
        E.due("one too many", Due.rule(fox, wide + "+1"), -2 - (1 + 8 * 125 + 3));
        E.due("sixty", Due.rule(fox, wide), 2);
        E.due("sixty again", Due.rule(fox, wide), 3);
        E.due("thirteen CLAUSES", Due.rule(fox, many + ";ride 4"), -2 - (1 + 8 * 161 + 4));
        E.due("twelve", Due.rule(fox, many), 4);
        E.due("twelve again", Due.rule(fox, many), 5);
        int[] fields = {1, 1, 1, 1, 3, 3};
        for (int i = 0; i < 6; i++) {
            fox.force(i);
            E.due("by RULE " + i, Edges.rides(fox), fields[i]);
        }
    }

    private static void force() {
        E.sentence("A RULE is IN FORCE (NONE: none): which was");
        FoxReply fox = busy();
        E.due("force(0)", fox.force(0), 1);
        E.due("force(0) again", fox.force(0), 0);
        E.due("force(NONE)", fox.force(-1), 0);
        E.due("force(NONE) again", fox.force(-1), -1);
        E.due("force(1)", fox.force(1), -1);
        E.due("no ACT", fox.count(12), 2);

        E.sentence("-2, and nothing happens, if there is none such.");
        E.refused(busy(), "force(2)", f -> f.force(2), -2);
        E.refused(busy(), "force(-2)", f -> f.force(-2), -2);
        E.refused(busy(), "force(min)", f -> f.force(MIN), -2);
        E.refused(busy(), "force(max)", f -> f.force(MAX), -2);
        E.due("of a new object", new FoxReply().force(0), -2);
    }

    private static void rider() {
        E.sentence("Of a RIDER what 0: how far they have run, 1: PACE, 2: for how many STEPS they are to ground, 3: how often they were it. NONE without these.");
        FoxReply fox = three();
        fox.step();
        int[] want = {94, 2, 2, 1};
        for (int what = 0; what <= 3; what++) {
            E.due("rider(1, " + what + ")", fox.rider(1, what), want[what]);
        }
        E.due("rider(0, -1)", fox.rider(0, -1), -1);
        E.due("rider(0, 4)", fox.rider(0, 4), -1);
        E.due("rider(0, min)", fox.rider(0, MIN), -1);
        E.due("rider(0, max)", fox.rider(0, MAX), -1);
        E.due("rider(-1, 0)", fox.rider(-1, 0), -1);
        E.due("rider(3, 0)", fox.rider(3, 0), -1);
        E.due("rider(min, 0)", fox.rider(MIN, 0), -1);
        E.due("rider(max, 0)", fox.rider(MAX, 0), -1);
        E.due("without a HUNT", new FoxReply().rider(0, 0), -1);
    }

    private static void gateAt() {
        E.sentence("1 if there is a gate at a field, 0 if not; NONE without that field.");
        FoxReply fox = Due.hunted("fox 60 1 0;gate 0;gate 59");
        E.due("gateAt(0)", fox.gateAt(0), 1);
        E.due("gateAt(1)", fox.gateAt(1), 0);
        E.due("gateAt(31)", fox.gateAt(31), 0);
        E.due("gateAt(32)", fox.gateAt(32), 0);
        E.due("gateAt(59)", fox.gateAt(59), 1);
        E.due("gateAt(60)", fox.gateAt(60), -1);
        E.due("gateAt(64)", fox.gateAt(64), -1);
        E.due("gateAt(-1)", fox.gateAt(-1), -1);
        E.due("gateAt(min)", fox.gateAt(MIN), -1);
        E.due("gateAt(max)", fox.gateAt(MAX), -1);
        E.due("without a HUNT", new FoxReply().gateAt(0), -1);
    }

    private static void step() {
        E.sentence("A STEP: who is IT (NONE: nobody); -2, and nothing happens, without a HUNT, or in STEP 999.");
        FoxReply fox = three();
        E.due("rider 1", fox.step(), 1);
        E.due("nobody", fox.step(), -1);
        E.due("an ACT", fox.count(12), 2);
        FoxReply none = new FoxReply();
        E.refused(none, "without a HUNT", FoxReply::step, -2);
        // More calls than the document promises of one object: it is the only way there.
        FoxReply late = Due.hunted("fox 2 1 0;rider 9 9");
        Edges.steps(late, 999);
        E.refused(late, "in STEP 999", FoxReply::step, -2);
        late.undo();
        E.due("in STEP 998", late.step(), -1);
    }

    private static void spur() {
        E.sentence("SPUR: which PACE it was; NONE, and nothing happens, without these (another one).");
        FoxReply fox = busy();
        E.due("spur(0, 1)", fox.spur(0, 1), 4);
        E.due("spur(0, 9)", fox.spur(0, 9), 1);
        E.due("one to ground", fox.spur(1, 9), 2);
        E.refused(busy(), "another one", f -> f.spur(0, 4), -1);
        E.refused(busy(), "spur(0, 0)", f -> f.spur(0, 0), -1);
        E.refused(busy(), "spur(0, 10)", f -> f.spur(0, 10), -1);
        E.refused(busy(), "spur(3, 5)", f -> f.spur(3, 5), -1);
        E.refused(busy(), "spur(-1, 5)", f -> f.spur(-1, 5), -1);
        E.due("without a HUNT", new FoxReply().spur(0, 5), -1);
    }

    private static void hold() {
        E.sentence("HOLD: how far they have run then; NONE, and nothing happens, without these.");
        FoxReply fox = busy();
        E.due("hold(0, 9)", fox.hold(0, 9), 90);
        E.due("hold(0, 1)", fox.hold(0, 1), 89);
        E.refused(busy(), "one to ground", f -> f.hold(1, 1), -1);
        E.refused(busy(), "hold(0, 0)", f -> f.hold(0, 0), -1);
        E.refused(busy(), "hold(0, 10)", f -> f.hold(0, 10), -1);
        E.refused(busy(), "hold(0, min)", f -> f.hold(0, MIN), -1);
        E.refused(busy(), "hold(3, 1)", f -> f.hold(3, 1), -1);
        E.refused(busy(), "hold(-1, 1)", f -> f.hold(-1, 1), -1);
        FoxReply back = Due.hunted("fox 10 3 2;rider 97 4");
        E.refused(back, "hold(0, 4) of 3", f -> f.hold(0, 4), -1);
        E.due("hold(0, 3) of 3", back.hold(0, 3), 0);
        E.due("without a HUNT", new FoxReply().hold(0, 1), -1);
    }

    private static void dig() {
        E.sentence("DIG: for how many STEPS they were to ground yet; NONE, and nothing happens, without these.");
        FoxReply fox = busy();
        E.refused(busy(), "not to ground", f -> f.dig(0), -1);
        E.refused(busy(), "dig(3)", f -> f.dig(3), -1);
        E.refused(busy(), "dig(-1)", f -> f.dig(-1), -1);
        E.due("dig(1)", fox.dig(1), 2);
        E.refused(fox, "dig(1) again", f -> f.dig(1), -1);
        fox.undo();
        fox.gate(3);
        fox.step();
        E.due("one yet", fox.dig(1), 1);
        E.due("without a HUNT", new FoxReply().dig(0), -1);
    }

    private static void gate() {
        E.sentence("GATE: 1 if it is one then, else 0; NONE, and nothing happens, without that field.");
        FoxReply fox = busy();
        E.due("gate(9)", fox.gate(9), 1);
        E.due("gate(9) again", fox.gate(9), 0);
        E.due("gate(2)", fox.gate(2), 0);
        E.refused(busy(), "gate(10)", f -> f.gate(10), -1);
        E.refused(busy(), "gate(66)", f -> f.gate(66), -1);
        E.refused(busy(), "gate(-1)", f -> f.gate(-1), -1);
        E.refused(busy(), "gate(min)", f -> f.gate(MIN), -1);
        E.due("without a HUNT", new FoxReply().gate(0), -1);
    }

    private static void undo() {
        E.sentence("The last ACT is UNDONE: how many more can be; NONE, and nothing happens: none can.");
        FoxReply fox = busy();
        E.due("the gate", fox.undo(), 1);
        E.due("the step", fox.undo(), 0);
        E.due("STEP", fox.count(7), 0);
        E.refused(fox, "none can", FoxReply::undo, -1);
        E.due("what is no ACT stays: the RULE IN FORCE", fox.count(6), 1);
        E.due("what is no ACT stays: x", fox.count(13), 4321);
        E.due("what is no ACT stays: NOTES", fox.count(11), 1);
        E.due("without a HUNT", new FoxReply().undo(), -1);
        // Undone and done anew: only what is left can be.
        fox.step();
        fox.step();
        fox.undo();
        fox.gate(0);
        E.due("count(12)", fox.count(12), 2);
        E.due("the gate anew", fox.undo(), 1);
        E.due("STEP", fox.count(7), 1);
        E.due("the step anew", fox.undo(), 0);
        E.due("STEP", fox.count(7), 0);
    }

    private static void last() {
        E.sentence("LAST (NONE: nobody); -2 without a HUNT.");
        E.due("last()", three().last(), 1);
        E.due("nobody", Due.hunted("fox 2 1 0").last(), -1);
        E.due("without a HUNT", new FoxReply().last(), -2);
    }

    private static void ahead() {
        E.sentence("AHEAD what 0: the fox (rider is not asked), 1: how far, 2: how often. NONE without these, or a HUNT.");
        FoxReply fox = three();
        E.due("ahead(0, 1, 0)", fox.ahead(0, 1, 0), 102);
        E.due("rider is not asked", fox.ahead(99, 1, 0), 102);
        E.due("rider is not asked", fox.ahead(MIN, 1, 0), 102);
        E.due("no RIDERS, not asked", Due.hunted("fox 10 3 2").ahead(0, 1, 0), 103);
        E.due("how far", fox.ahead(1, 1, 1), 94);
        E.due("how often", fox.ahead(1, 1, 2), 1);
        E.due("ahead(3, 1, 1)", fox.ahead(3, 1, 1), -1);
        E.due("ahead(-1, 1, 2)", fox.ahead(-1, 1, 2), -1);
        E.due("ahead(0, 1, 3)", fox.ahead(0, 1, 3), -1);
        E.due("ahead(0, 1, -1)", fox.ahead(0, 1, -1), -1);
        E.due("ahead(0, max, 0)", fox.ahead(0, MAX, 0), -1);
        E.due("ahead(0, min, 0)", fox.ahead(0, MIN, 0), -1);
        E.due("without a HUNT", new FoxReply().ahead(0, 1, 0), -1);
        E.due("without a HUNT", new FoxReply().ahead(0, 0, 1), -1);
    }

    private static void it() {
        E.sentence("IT; -2: in none of these; NONE without that RIDER.");
        FoxReply fox = three();
        E.due("it(1)", fox.it(1), 0);
        E.due("it(0): never", fox.it(0), -2);
        E.due("it(3)", fox.it(3), -1);
        E.due("it(-1): nobody is IT in STEP 1", fox.it(-1), -1);
        E.due("it(max)", fox.it(MAX), -1);
        E.due("without a HUNT", new FoxReply().it(0), -1);
    }

    private static void leastPace() {
        E.sentence("LEAST PACE; -2: by none; NONE without these.");
        FoxReply fox = three();
        E.due("leastPace(0, 1)", fox.leastPace(0, 1), 1);
        E.due("by none", Due.hunted("fox 2 1 0;rider 0 9;gate 0").leastPace(0, 60), -2);
        E.due("leastPace(3, 1)", fox.leastPace(3, 1), -1);
        E.due("leastPace(-1, 1)", fox.leastPace(-1, 1), -1);
        E.due("leastPace(0, 0)", fox.leastPace(0, 0), -1);
        E.due("leastPace(0, 61)", fox.leastPace(0, 61), -1);
        E.due("leastPace(0, min)", fox.leastPace(0, MIN), -1);
        E.due("without a HUNT", new FoxReply().leastPace(0, 1), -1);
    }

    private static void row() {
        E.sentence("ROW what 0: how often, 1: how far, 2: the first. NONE without these.");
        FoxReply fox = three();
        E.due("row(2, 1, 0)", fox.row(2, 1, 0), 0);
        E.due("row(2, 1, 1)", fox.row(2, 1, 1), 95);
        E.due("row(2, 1, 2)", fox.row(2, 1, 2), 1);
        E.due("row(2, 1, 3)", fox.row(2, 1, 3), -1);
        E.due("row(2, 1, -1)", fox.row(2, 1, -1), -1);
        E.due("row(3, 1, 0)", fox.row(3, 1, 0), -1);
        E.due("row(-1, 1, 0)", fox.row(-1, 1, 0), -1);
        E.due("row(2, 0, 0)", fox.row(2, 0, 0), -1);
        E.due("row(2, 5, 0)", fox.row(2, 5, 0), -1);
        E.due("row(2, max, 0)", fox.row(2, MAX, 0), -1);
        E.due("without a HUNT", new FoxReply().row(0, 1, 0), -1);
    }

    private static void shut() {
        E.sentence("SHUT what 0: the field (NONE: nothing), 1: how often. -2 without these, or a HUNT.");
        FoxReply fox = three();
        E.due("shut(1, 0)", fox.shut(1, 0), 2);
        E.due("shut(1, 1)", fox.shut(1, 1), 0);
        E.due("nothing", Due.hunted("fox 10 3 2;rider 5 4").shut(1, 0), -1);
        E.due("shut(1, 2)", fox.shut(1, 2), -2);
        E.due("shut(1, -1)", fox.shut(1, -1), -2);
        E.due("shut(0, 0)", fox.shut(0, 0), -2);
        E.due("shut(61, 0)", fox.shut(61, 0), -2);
        E.due("shut(min, 0)", fox.shut(MIN, 0), -2);
        E.due("without a HUNT", new FoxReply().shut(1, 0), -2);
    }

    private static void help() {
        E.sentence("HELP what 0: how many, 1: the set; -2: by none. NONE without these, or a HUNT.");
        FoxReply fox = three();
        E.due("help(1, 0)", fox.help(1, 0), 0);
        E.due("help(1, 1)", fox.help(1, 1), 0);
        E.due("by none", fox.help(10, 0), -2);
        E.due("by none: the set", fox.help(10, 1), -2);
        E.due("help(1, 2)", fox.help(1, 2), -1);
        E.due("help(1, -1)", fox.help(1, -1), -1);
        E.due("help(0, 0)", fox.help(0, 0), -1);
        E.due("help(61, 0)", fox.help(61, 0), -1);
        E.due("without a HUNT", new FoxReply().help(1, 0), -1);
    }

    private static void allIt() {
        E.sentence("ALL; -2: behind none of these; NONE without a HUNT.");
        E.due("behind none", three().allIt(), -2);
        E.due("without a HUNT", new FoxReply().allIt(), -1);

        E.sentence("(Behind: the number of that STEP; no RIDERS, or all have been it: this STEP less 1.)");
        FoxReply none = Due.hunted("fox 10 3 2;gate 2");
        E.due("no RIDERS in STEP 0", none.allIt(), -1);
        none.step();
        none.step();
        E.due("no RIDERS in STEP 2", none.allIt(), 1);
        FoxReply one = Due.hunted("fox 10 1 2;rider 5 4;gate 3");
        E.due("the number of that STEP", one.allIt(), 2);
        Edges.steps(one, 2);
        E.due("the number of this STEP", one.allIt(), 2);
        one.step();
        E.due("all have been it", one.allIt(), 2);
        one.step();
        E.due("all have been it before", one.allIt(), 3);
    }

    private static void meet() {
        E.sentence("MEET; -2: at none of these; NONE without these (unlike).");
        FoxReply fox = three();
        E.due("at none", fox.meet(0, 1), -2);
        E.due("alike", fox.meet(0, 0), -1);
        E.due("meet(0, 3)", fox.meet(0, 3), -1);
        E.due("meet(3, 0)", fox.meet(3, 0), -1);
        E.due("meet(-1, 0)", fox.meet(-1, 0), -1);
        E.due("meet(0, -1)", fox.meet(0, -1), -1);
        E.due("without a HUNT", new FoxReply().meet(0, 1), -1);
    }

    private static void bunches() {
        E.sentence("BUNCHES what 0: how many, 1: the largest, as bits (0: there is none). NONE for others, or without a HUNT.");
        FoxReply fox = three();
        E.due("bunches(0)", fox.bunches(0), 1);
        E.due("bunches(1)", fox.bunches(1), 7);
        E.due("there is none", Due.hunted("fox 2 1 0").bunches(1), 0);
        FoxReply ground = Due.hunted("fox 2 1 9;rider 9 1;gate 1");
        ground.step();
        E.due("all to ground: how many", ground.bunches(0), 0);
        E.due("all to ground: there is none", ground.bunches(1), 0);
        E.due("bunches(2)", fox.bunches(2), -1);
        E.due("bunches(-1)", fox.bunches(-1), -1);
        E.due("without a HUNT", new FoxReply().bunches(0), -1);
        E.due("without a HUNT", new FoxReply().bunches(1), -1);
    }

    private static void pence() {
        E.sentence("PENCE of a RIDER; NONE without these.");
        FoxReply fox = three();
        fox.step();
        E.due("pence(9999, 1)", fox.pence(9999, 1), 9999);
        E.due("pence(0, 1)", fox.pence(0, 1), 0);
        E.due("pence(10000, 1)", fox.pence(10000, 1), -1);
        E.due("pence(-1, 1)", fox.pence(-1, 1), -1);
        E.due("pence(max, 1)", fox.pence(MAX, 1), -1);
        E.due("pence(1, 3)", fox.pence(1, 3), -1);
        E.due("pence(1, -1)", fox.pence(1, -1), -1);
        E.due("without a HUNT", new FoxReply().pence(1, 0), -1);
    }

    private static void rests() {
        E.sentence("RESTS what 0: how many, 1, 2: PACES of the first (-2: there is none). NONE without these (unlike).");
        FoxReply fox = Due.hunted("fox 10 3 0;rider 5 4;rider 20 4;rider 18 1;gate 2");
        E.due("how many", fox.rests(0, 1, 1, 0), 1);
        E.due("of the one", fox.rests(0, 1, 1, 1), 1);
        E.due("of the other", fox.rests(0, 1, 1, 2), 3);
        FoxReply race = Due.hunted("fox 10 3 0;rider 5 4;rider 5 4;gate 2");
        E.due("none: how many", race.rests(0, 1, 1, 0), 0);
        E.due("none: of the one", race.rests(0, 1, 1, 1), -2);
        E.due("none: of the other", race.rests(0, 1, 1, 2), -2);
        E.due("alike", fox.rests(1, 1, 1, 0), -1);
        E.due("rests(0, 3, 1, 0)", fox.rests(0, 3, 1, 0), -1);
        E.due("rests(-1, 0, 1, 0)", fox.rests(-1, 0, 1, 0), -1);
        E.due("rests(0, 1, 0, 0)", fox.rests(0, 1, 0, 0), -1);
        E.due("rests(0, 1, 21, 0)", fox.rests(0, 1, 21, 0), -1);
        E.due("rests(0, 1, 1, 3)", fox.rests(0, 1, 1, 3), -1);
        E.due("rests(0, 1, 1, -1)", fox.rests(0, 1, 1, -1), -1);
        E.due("without a HUNT", new FoxReply().rests(0, 1, 1, 0), -1);
    }

    private static void open() {
        E.sentence("OPEN what 0: the field (NONE: at none), 1: how often. -2 without these.");
        FoxReply fox = Due.hunted("fox 10 3 0;rider 5 4");
        E.due("open(0, 1, 0)", fox.open(0, 1, 0), 1);
        E.due("open(0, 1, 1)", fox.open(0, 1, 1), 1);
        E.due("at none", three().open(0, 1, 0), -1);
        E.due("open(0, 1, 2)", fox.open(0, 1, 2), -2);
        E.due("open(0, 1, -1)", fox.open(0, 1, -1), -2);
        E.due("open(1, 1, 0)", fox.open(1, 1, 0), -2);
        E.due("open(-1, 1, 0)", fox.open(-1, 1, 0), -2);
        E.due("open(0, 0, 0)", fox.open(0, 0, 0), -2);
        E.due("open(0, 61, 0)", fox.open(0, 61, 0), -2);
        E.due("without a HUNT", new FoxReply().open(0, 1, 0), -2);
    }

    private static void close() {
        E.sentence("CLOSE what 0: how much, 1: who, 2: the STEP (both -2: none). NONE without these, or a HUNT.");
        FoxReply fox = three();
        E.due("close(1, 0)", fox.close(1, 0), 3);
        E.due("close(1, 1)", fox.close(1, 1), 0);
        E.due("close(1, 2)", fox.close(1, 2), 1);
        FoxReply none = Due.hunted("fox 10 1 0");
        E.due("none: how much", none.close(1, 0), 99999);
        E.due("none: who", none.close(1, 1), -2);
        E.due("none: the STEP", none.close(1, 2), -2);
        E.due("close(0, 0)", fox.close(0, 0), -1);
        E.due("close(101, 0)", fox.close(101, 0), -1);
        E.due("close(1, 3)", fox.close(1, 3), -1);
        E.due("close(1, -1)", fox.close(1, -1), -1);
        E.due("without a HUNT", new FoxReply().close(1, 0), -1);
    }

    private static void note() {
        E.sentence("A NOTE (n NONE: there are none then, 0): how many");
        FoxReply fox = three();
        E.due("one", fox.note(0, 2, 0), 1);
        E.due("two", fox.note(0, 2, 0), 2);
        E.due("none", fox.note(-1, 0, 0), 0);
        E.due("count(11)", fox.count(11), 0);
        E.due("none again", fox.note(-1, 9, -9), 0);
        E.due("one again", fox.note(60, 0, 9999), 1);
        E.due("no ACT", fox.count(12), 0);

        E.sentence("-2, and nothing happens, without these, or if there are 10.");
        E.refused(busy(), "note(61, 0, 1)", f -> f.note(61, 0, 1), -2);
        E.refused(busy(), "note(-2, 0, 1)", f -> f.note(-2, 0, 1), -2);
        E.refused(busy(), "note(1, 3, 1)", f -> f.note(1, 3, 1), -2);
        E.refused(busy(), "note(1, -1, 1)", f -> f.note(1, -1, 1), -2);
        E.refused(busy(), "note(1, 0, -1)", f -> f.note(1, 0, -1), -2);
        E.refused(busy(), "note(1, 0, 10000)", f -> f.note(1, 0, 10000), -2);
        FoxReply full = three();
        for (int i = 1; i <= 10; i++) {
            E.due("note " + i, full.note(0, 0, 95), i);
        }
        E.refused(full, "an eleventh", f -> f.note(0, 0, 1), -2);
        E.due("without a HUNT", new FoxReply().note(0, 0, 0), -2);
        E.due("without a HUNT: none", new FoxReply().note(-1, 0, 0), 0);
    }

    private static void ruled() {
        E.sentence("RULED what 0: how many, 1: the first (NONE: none; -2: there is none such). -3 for others, or without a HUNT.");
        FoxReply fox = three();
        Due.rule(fox, "ride 1");
        E.due("how many", fox.ruled(0), 2);
        E.due("none", fox.ruled(1), -1);
        fox.note(1, 0, 96);
        E.due("RULE 0", fox.ruled(1), 0);
        fox.note(1, 0, 97);
        E.due("how many: 0", fox.ruled(0), 0);
        E.due("there is none such", fox.ruled(1), -2);
        E.due("ruled(2)", fox.ruled(2), -3);
        E.due("ruled(-1)", fox.ruled(-1), -3);
        E.due("without a HUNT", new FoxReply().ruled(0), -3);
        E.due("without a HUNT", new FoxReply().ruled(1), -3);
    }

    private static void look() {
        E.sentence("LOOK (n 0 to 60) what 0: the RIDER, 1: how many; -2: no RULE is so, or there are no RIDERS. NONE without these, or a HUNT.");
        FoxReply fox = three();
        Due.rule(fox, "ride 1");
        // Rider 0 rides 4 or 1, rider 1 2 or 1: the least.
        E.due("the RIDER", fox.look(1, 0), 0);
        E.due("how many", fox.look(1, 1), 1);
        E.due("look(0, 1)", fox.look(0, 1), 2);
        E.due("look(60, 1)", fox.look(60, 1), 1);
        E.due("look(61, 0)", fox.look(61, 0), -1);
        E.due("look(-1, 0)", fox.look(-1, 0), -1);
        E.due("look(0, 2)", fox.look(0, 2), -1);
        E.due("look(0, -1)", fox.look(0, -1), -1);
        fox.note(0, 0, 1);
        E.due("no RULE is so: the RIDER", fox.look(1, 0), -2);
        E.due("no RULE is so: how many", fox.look(1, 1), -2);
        E.due("no RIDERS: the RIDER", Due.hunted("fox 2 1 0").look(0, 0), -2);
        E.due("no RIDERS: how many", Due.hunted("fox 2 1 0").look(0, 1), -2);
        E.due("without a HUNT", new FoxReply().look(0, 0), -1);
    }

    private static void seed() {
        E.sentence("x becomes a number: what it was; NONE, and nothing happens, below 0.");
        FoxReply fox = busy();
        E.refused(busy(), "seed(-1)", f -> f.seed(-1), -1);
        E.refused(busy(), "seed(min)", f -> f.seed(MIN), -1);
        E.due("seed(max)", fox.seed(MAX), 4321);
        E.due("seed(0)", fox.seed(0), MAX);
        E.due("count(13)", fox.count(13), 0);
        E.due("no ACT", fox.count(12), 2);
        E.due("without a HUNT", new FoxReply().seed(1), 0);
    }

    private static void mornings() {
        E.sentence("MORNINGS what 0: how often, 1: how far. NONE without these, or a HUNT.");
        FoxReply fox = three();
        E.due("mornings(1, 1, 0, 0)", fox.mornings(1, 1, 0, 0), 1);
        E.due("mornings(1, 1, 100, 1)", fox.mornings(1, 1, 100, 1), 102);
        E.due("mornings(10, 60, 100, 0)", fox.mornings(10, 60, 100, 0), 300);
        E.due("mornings(0, 1, 0, 0)", fox.mornings(0, 1, 0, 0), -1);
        E.due("mornings(11, 1, 0, 0)", fox.mornings(11, 1, 0, 0), -1);
        E.due("mornings(1, 0, 0, 0)", fox.mornings(1, 0, 0, 0), -1);
        E.due("mornings(1, 61, 0, 0)", fox.mornings(1, 61, 0, 0), -1);
        E.due("mornings(1, 1, -1, 0)", fox.mornings(1, 1, -1, 0), -1);
        E.due("mornings(1, 1, 101, 0)", fox.mornings(1, 1, 101, 0), -1);
        E.due("mornings(1, 1, 0, 2)", fox.mornings(1, 1, 0, 2), -1);
        E.due("mornings(1, 1, 0, -1)", fox.mornings(1, 1, 0, -1), -1);
        E.due("without a HUNT", new FoxReply().mornings(1, 1, 0, 0), -1);
    }

    private static void count() {
        E.sentence("What 0: ROUND, 1: PACE of the fox, 2: LAW, 3: RIDERS, 4: gates, how many, 5: RULES, 6: the RULE IN FORCE (NONE), 7: STEP, 8: how far the fox has run");
        FoxReply told = Due.hunted("fox 7 5 9;rider 3 2;rider 4 2;gate 6;gate 0;gate 6");
        int[] first = {7, 5, 9, 2, 2, 0, -1, 0, 100};
        for (int what = 0; what <= 8; what++) {
            E.due("count(" + what + ") as told", told.count(what), first[what]);
        }

        E.sentence("11: NOTES, 12: ACTS that can be UNDONE, 13: x, 14: bytes of the TAPE. NONE for others.");
        FoxReply fox = busy();
        int[] want = {10, 3, 2, 3, 3, 2, 1, 1, 102, 2, 1, 1, 2, 4321, 20};
        for (int what = 0; what <= 14; what++) {
            E.due("count(" + what + ")", fox.count(what), want[what]);
        }
        E.due("count(15)", fox.count(15), -1);
        E.due("count(-1)", fox.count(-1), -1);
        E.due("count(min)", fox.count(MIN), -1);
        E.due("count(max)", fox.count(MAX), -1);
        E.due("without a HUNT", new FoxReply().count(15), -1);
        E.due("none IN FORCE", three().count(6), -1);

        E.sentence("9: RIDERS to ground, as bits, 10: how often anybody was it, all together");
        FoxReply six = Due.hunted("fox 2 1 9" + ";rider 9 1".repeat(6) + ";gate 0;gate 1");
        int bits = 0;
        for (int i = 5; i >= 0; i--) {
            six.step();
            bits |= 1 << i;
            E.due("to ground", six.count(9), bits);
            E.due("was it", six.count(10), 6 - i);
        }
    }

    private static void image() {
        E.sentence("An IMAGE is made: STEP; NONE without it.");
        FoxReply fox = busy();
        E.due("image(0)", fox.image(0), 1);
        E.due("image(3)", fox.image(3), 1);
        E.due("image(4)", fox.image(4), -1);
        E.due("image(-1)", fox.image(-1), -1);
        E.due("image(min)", fox.image(MIN), -1);
        E.due("image(max)", fox.image(MAX), -1);
        E.due("no ACT", fox.count(12), 2);
        fox.step();
        E.due("image(0) anew", fox.image(0), 2);
        fox.step();
        E.due("back(0)", fox.back(0), 2);
        E.due("back(3)", fox.back(3), 1);
    }

    private static void back() {
        E.sentence("All is as in an IMAGE: STEP; NONE, and nothing happens, if it was never made, or without it.");
        FoxReply fox = busy();
        fox.image(1);
        fox.image(2);
        E.refused(fox, "never made: back(0)", f -> f.back(0), -1);
        E.refused(fox, "never made: back(3)", f -> f.back(3), -1);
        E.refused(fox, "back(4)", f -> f.back(4), -1);
        E.refused(fox, "back(-1)", f -> f.back(-1), -1);
        fox.end(0);
        String made = Edges.state(fox);
        fox.undo();
        fox.undo();
        fox.note(-1, 0, 0);
        fox.spur(0, 9);
        E.due("back(2)", fox.back(2), 1);
        E.due("ACTS", fox.count(12), 0);
        fox.gate(0);
        fox.gate(0);
        E.due("all is as in it", made.equals(Edges.state(fox)) ? 1 : 0, 1);
        E.due("of a new object", new FoxReply().back(0), -1);
    }

    /**
     * All that is asked with as many RIDERS as there can be. Behind STEP 0 they are at 100, 99, 98, 97,
     * 93 and 100, rider 4 to ground; then riders 3, 2, 1, 5 and 0 are IT.
     */
    private static void sixRiders() {
        E.sentence("RIDERS 0 to 5, in the order told.");
        FoxReply fox = Due.hunted("fox 2 1 9;rider 1 1;rider 2 1;rider 3 1;rider 4 1;rider 8 1;rider 8 9;gate 0;gate 1");
        E.due("last()", fox.last(), 5);
        E.due("step()", fox.step(), 4);
        E.due("last() of five", fox.last(), 3);
        E.due("it(5)", fox.it(5), 4);
        E.due("it(6)", fox.it(6), -1);
        E.due("ahead(5, 3, 1)", fox.ahead(5, 3, 1), 103);
        E.due("allIt()", fox.allIt(), 5);
        E.due("leastPace(5, 2)", fox.leastPace(5, 2), 1);
        E.due("row(5, 1, 1)", fox.row(5, 1, 1), 100);
        E.due("row(5, 4, 0)", fox.row(5, 4, 0), 1);
        E.due("shut(5, 1)", fox.shut(5, 1), 2);
        E.due("help(9, 1)", fox.help(9, 1), 0);
        E.due("meet(5, 0)", fox.meet(5, 0), 1);
        E.due("bunches(0)", fox.bunches(0), 1);
        E.due("bunches(1)", fox.bunches(1), 47);
        E.due("pence(7, 4)", fox.pence(7, 4), 7);
        E.due("pence(7, 5)", fox.pence(7, 5), 0);
        E.due("rests(5, 4, 1, 1)", fox.rests(5, 4, 1, 1), 1);
        E.due("open(5, 5, 1)", fox.open(5, 5, 1), 1);
        E.due("close(1, 1)", fox.close(1, 1), 0);
        E.due("note(1, 5, 100)", fox.note(1, 5, 100), 1);
        E.due("ruled(0)", fox.ruled(0), 1);
        E.due("look(1, 0)", fox.look(1, 0), 0);
        E.due("mornings(1, 6, 100, 0)", fox.mornings(1, 6, 100, 0), 5);
        Due.rule(fox, "ride pace");
        E.due("look(1, 0): all alike", fox.look(1, 0), 0);
        E.due("look(1, 1): all alike", fox.look(1, 1), 2);
        E.due("spur(5, 1)", fox.spur(5, 1), 9);
        E.due("hold(5, 1)", fox.hold(5, 1), 99);
        E.due("dig(4)", fox.dig(4), 9);
        fox.force(Due.rule(fox, "ride rider"));
        E.due("step()", fox.step(), 4);
        E.due("rider(5, 0)", fox.rider(5, 0), 100);
        E.due("count(9)", fox.count(9), 16);
    }
}
