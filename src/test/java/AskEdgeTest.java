/** Terms, the third part: each sentence of what is asked that names an edge. */
public final class AskEdgeTest {
    private static final Edges E = new Edges();

    /** Each STEP ends at a gate. */
    private static final String ALL_GATES = ";gate 0;gate 1";

    /** The fox, at field 40 of 60, comes round to his own gate in the 60th STEP. */
    private static final String SIXTIETH = "fox 60 1 0;rider 0 1;gate 40";

    public static void main(String[] args) {
        nothingChanges();
        byTheRule();
        last();
        ahead();
        it();
        leastPace();
        rowLeastOften();
        rowNumbers();
        shut();
        help();
        all();
        meet();
        bunches();
        pence();
        rests();
        open();
        close();
        notes();
        ruled();
        look();
        draws();
        mornings();
        images();
        E.close();
    }

    private static void nothingChanges() {
        E.sentence("(By what is asked nothing changes; STEPS go on by the RULE IN FORCE.)");
        FoxReply fox = E.ruled("fox 10 3 2;rider 5 4;rider 8 2;rider 6 3;gate 2;gate 7", "ride pace");
        fox.seed(77);
        fox.note(1, 0, 99);
        fox.step();
        String before = Edges.state(fox);
        int asked = fox.last() + fox.ahead(0, 100, 1) + fox.it(0) + fox.leastPace(1, 60) + fox.row(0, 4, 0)
                + fox.shut(60, 0) + fox.help(60, 1) + fox.allIt() + fox.meet(0, 1) + fox.bunches(1)
                + fox.pence(9999, 1) + fox.rests(0, 1, 20, 1) + fox.open(0, 60, 0) + fox.close(100, 2)
                + fox.ruled(1) + fox.look(60, 0) + fox.mornings(10, 60, 100, 0) + fox.count(9);
        E.due("as before, whatever they answered: " + asked, before.equals(Edges.state(fox)) ? 1 : 0, 1);
        E.due("the ACT can be undone", fox.undo(), 0);
    }

    /** By the RULE rider 0 stays, by none rider 1 is LAST. */
    private static void byTheRule() {
        E.sentence("STEPS go on by the RULE IN FORCE.");
        String hunt = "fox 2 1 0;rider 5 9;rider 8 2" + ALL_GATES;
        FoxReply none = Due.hunted(hunt);
        FoxReply fox = E.ruled(hunt, "ride 3 * rider");
        E.due("ahead by none", none.ahead(0, 3, 1), 102);
        E.due("ahead", fox.ahead(0, 3, 1), 95);
        E.due("it by none", none.it(0), -2);
        E.due("it", fox.it(0), 1);
        E.due("leastPace by none", none.leastPace(0, 9), 2);
        E.due("leastPace", fox.leastPace(0, 9), -2);
        E.due("meet by none", none.meet(0, 1), 7);
        E.due("meet: from 94 to 96, past 95", fox.meet(0, 1), -2);
        E.due("allIt by none", none.allIt(), -2);
        E.due("allIt", fox.allIt(), 1);
        E.due("help by none", none.help(2, 0), -2);
        E.due("help", fox.help(2, 0), 0);
        E.due("open by none", none.open(0, 5, 1), 0);
        E.due("open", fox.open(0, 5, 1), 4);
        E.due("close by none", none.close(9, 0), 1);
        E.due("close", fox.close(1, 0), 5);
    }

    private static void last() {
        E.sentence("LAST now (NONE: all are to ground, or there are none).");
        E.due("none", Due.hunted("fox 2 1 0").last(), -1);
        E.due("of several", Due.hunted("fox 2 1 0;rider 3 1;rider 5 1;rider 5 1;rider 4 1").last(), 2);
        FoxReply fox = Due.hunted("fox 2 1 9;rider 9 1;rider 10 1" + ALL_GATES);
        E.due("last()", fox.last(), 1);
        fox.step();
        E.due("one is to ground", fox.last(), 0);
        fox.step();
        E.due("all are", fox.last(), -1);
        fox.dig(1);
        E.due("one is dug out", fox.last(), 1);
    }

    private static void ahead() {
        E.sentence("AHEAD n STEPS (0 to 100): how far the fox has run; how far a RIDER has; how often they were it.");
        FoxReply fox = Due.hunted("fox 2 1 0;rider 9 1" + ALL_GATES);
        fox.step();
        E.due("0 STEPS: the fox", fox.ahead(0, 0, 0), 101);
        E.due("0 STEPS: how far", fox.ahead(0, 0, 1), 92);
        E.due("0 STEPS: how often, in all", fox.ahead(0, 0, 2), 1);
        E.due("100 STEPS: the fox", fox.ahead(0, 100, 0), 201);
        E.due("100 STEPS: how far", fox.ahead(0, 100, 1), 192);
        E.due("100 STEPS: how often, in all", fox.ahead(0, 100, 2), 101);
        E.due("101 STEPS", fox.ahead(0, 101, 0), -1);
        E.due("-1 STEPS", fox.ahead(0, -1, 0), -1);
    }

    /** Rider 1 rides a field when told; by one they come level with rider 0, by two they pass. */
    private static FoxReply passing(String when) {
        return E.ruled("fox 2 1 0;rider 1 1;rider 2 1" + ALL_GATES, "ride 1 if rider = 1 and " + when);
    }

    private static void it() {
        E.sentence("IT of a RIDER: the first STEP, this one the first, of 200, in which they are.");
        E.due("this one", passing("step < 0").it(1), 0);
        E.due("the 200th", passing("step >= 198").it(0), 199);
        E.due("the 201st", passing("step >= 199").it(0), -2);
        FoxReply fox = passing("step >= 199");
        fox.step();
        E.due("the 200th from STEP 1 on", fox.it(0), 200);
        E.due("this one is STEP 1", fox.it(1), 1);
    }

    private static void leastPace() {
        E.sentence("LEAST PACE of a RIDER for n STEPS (1 to 60): the least, 1 to 9, in place of theirs, by which they are not IT in these.");
        // Rider 0 must come level with rider 1, who is of greater number: from 90 on to 93 + 1.
        FoxReply fox = Due.hunted("fox 50 1 0;rider 10 9;rider 7 1;gate 1");
        E.due("least", fox.leastPace(0, 1), 4);
        E.due("of no greater number: beyond 99", fox.leastPace(1, 1), 7);
        E.due("1", Due.hunted("fox 50 1 0;rider 10 1;rider 7 9;gate 1").leastPace(1, 1), 1);
        FoxReply nine = Due.hunted("fox 50 1 0;rider 20 1;rider 12 1;gate 1");
        E.due("9", nine.leastPace(0, 1), 9);
        nine.hold(0, 1);
        E.due("10 would do", nine.leastPace(0, 1), -2);
        E.due("59 STEPS", Due.hunted(SIXTIETH).leastPace(0, 59), 1);
        E.due("60 STEPS", Due.hunted(SIXTIETH).leastPace(0, 60), -2);
        E.due("61 STEPS", Due.hunted(SIXTIETH).leastPace(0, 61), -1);
        E.due("0 STEPS", Due.hunted(SIXTIETH).leastPace(0, 0), -1);
    }

    private static void rowLeastOften() {
        E.sentence("ROW of a RIDER for n STEPS (1 to 4): of all rows of fields, 0 to their PACE each");
        FoxReply fox = Due.hunted("fox 50 1 0;rider 10 3;rider 7 1;gate 1");
        E.due("PACE 3 is too little: how often", fox.row(0, 1, 0), 1);
        E.due("PACE 3 is too little: how far", fox.row(0, 1, 1), 90);
        E.due("PACE 3 is too little: the first", fox.row(0, 1, 2), 0);
        fox.spur(0, 4);
        E.due("PACE 4 will do: how often", fox.row(0, 1, 0), 0);
        E.due("PACE 4 will do: how far", fox.row(0, 1, 1), 94);
        E.due("PACE 4 will do: the first", fox.row(0, 1, 2), 4);
        E.due("0 STEPS", fox.row(0, 0, 0), -1);
        E.due("5 STEPS", fox.row(0, 5, 0), -1);
        FoxReply four = Due.hunted("fox 2 1 0;rider 9 2;rider 0 1" + ALL_GATES);
        E.due("1 STEP: how often", four.row(0, 1, 0), 1);
        E.due("2 STEPS: how often", four.row(0, 2, 0), 2);
        E.due("3 STEPS: how often", four.row(0, 3, 0), 3);
        E.due("4 STEPS: how often", four.row(0, 4, 0), 4);
        E.due("4 STEPS: how far", four.row(0, 4, 1), 91);

        E.sentence("that they ride in these in place of what the RULE says (others by it;");
        FoxReply still = E.ruled("fox 50 1 0;rider 10 9;rider 10 9;gate 1", "ride 3 if rider = 0;ride 0");
        E.due("how often", still.row(1, 1, 0), 0);
        E.due("others by it: how far", still.row(1, 1, 1), 94);

        E.sentence("to ground they ride none, whatever the row says; never farther than the fox");
        FoxReply down = Due.hunted("fox 2 1 2;rider 9 5;rider 0 1" + ALL_GATES);
        down.step();
        // Rider 0 is to ground at 96 in STEPS 1 and 2, and IT again in that one.
        E.due("to ground: how often", down.row(0, 2, 0), 1);
        E.due("to ground: how far", down.row(0, 2, 1), 96);
        E.due("to ground: the first", down.row(0, 2, 2), 0);
        FoxReply near = Due.hunted("fox 50 1 0;rider 0 1;rider 1 9;gate 1");
        E.due("no farther: how often", near.row(1, 1, 0), 1);
        near.gate(1);
        near.gate(2);
        // Level with rider 0 is LAST for rider 1, and the fox is but a field on in STEP 1.
        E.due("no farther: in two", near.row(1, 2, 0), 1);
    }

    private static void rowNumbers() {
        E.sentence("those in which they are IT least often; of these the one by which they have run least; of several the first (least numbers first): how often; how far; the first of it.");
        // Rider 1 stays at 91, two STEPS of 9 and two fields away; both STEPS end at a gate.
        FoxReply never = E.ruled("fox 50 1 0;rider 29 9;rider 9 9;gate 1;gate 2", "ride 0");
        E.due("twenty are enough: how often", never.row(0, 2, 0), 2);
        E.due("twenty are enough: how far", never.row(0, 2, 1), 71);
        FoxReply least = E.ruled("fox 50 1 0;rider 20 9;rider 11 9;gate 1;gate 2", "ride 0");
        E.due("nine are enough: how often", least.row(0, 2, 0), 0);
        E.due("nine are enough: how far", least.row(0, 2, 1), 89);
        E.due("nine are enough: the first", least.row(0, 2, 2), 9);
        FoxReply once = E.ruled("fox 50 1 0;rider 20 9;rider 10 9;gate 1;gate 2", "ride 0");
        E.due("ten are: how often", once.row(0, 2, 0), 1);
        E.due("ten are: how far", once.row(0, 2, 1), 90);
        // 1 and 9 as well as 9 and 1: the first of these.
        E.due("ten are: the first", once.row(0, 2, 2), 1);
        // Who is level with them in STEP 1 flees by 5: 0 and 5 come first, but 1 and 0 run less.
        FoxReply shy = E.ruled("fox 10 1 0;rider 10 9;rider 10 9;gate 2", "ride 5 if step = 1 and level = 1");
        E.due("less: how often", shy.row(0, 2, 0), 0);
        E.due("less: how far", shy.row(0, 2, 1), 91);
        E.due("less: the first", shy.row(0, 2, 2), 1);
        // Who was it before counts for nothing.
        FoxReply again = E.ruled("fox 2 1 0;rider 9 9;rider 5 9" + ALL_GATES, "ride 0");
        Edges.steps(again, 3);
        E.due("it before: how often", again.row(0, 1, 0), 0);
        E.due("it before: how far", again.row(0, 1, 1), 95);
        E.due("it before: the first", again.row(0, 1, 2), 4);
        FoxReply free = Due.hunted("fox 50 1 0;rider 20 9");
        E.due("no gate: the first", free.row(0, 4, 2), 0);
        E.due("no gate: how far", free.row(0, 4, 1), 80);
    }

    private static void shut() {
        E.sentence("SHUT for n STEPS (1 to 60): the gate that had best be none from now on, or nothing, so that RIDERS are IT least often in these, all together");
        E.due("59 STEPS", Due.hunted(SIXTIETH).shut(59, 0), -1);
        E.due("60 STEPS", Due.hunted(SIXTIETH).shut(60, 0), 40);
        E.due("60 STEPS: how often", Due.hunted(SIXTIETH).shut(60, 1), 0);
        E.due("61 STEPS", Due.hunted(SIXTIETH).shut(61, 0), -2);
        E.due("0 STEPS", Due.hunted(SIXTIETH).shut(0, 0), -2);
        E.due("no gates", Due.hunted("fox 60 1 0;rider 0 1").shut(60, 0), -1);
        E.due("no riders", Due.hunted("fox 2 1 0" + ALL_GATES).shut(60, 0), -1);
        // Two are IT at the first gate and the third, one is to ground at the second: all count.
        FoxReply two = Due.hunted("fox 60 1 0;rider 1 1;rider 5 9;gate 41;gate 43");
        E.due("all together", two.shut(5, 1), 1);

        E.sentence("of several nothing, then the least; how often. HELP");
        FoxReply alike = Due.hunted("fox 10 1 0;rider 5 4;gate 5;gate 3;gate 8");
        E.due("ahead of all", alike.shut(2, 0), -1);
        E.due("ahead of all: how often", alike.shut(2, 1), 0);
        E.due("the least of two", alike.shut(5, 0), 3);
        E.due("the least of two: how often", alike.shut(5, 1), 1);
        E.due("field 0", Due.hunted("fox 10 1 0;rider 5 4;gate 9;gate 0").shut(10, 0), 0);
        E.due("the last field", Due.hunted("fox 10 1 0;rider 5 4;gate 9;gate 0").shut(9, 0), 9);
        E.due("the only one that counts", Due.hunted("fox 10 1 0;rider 5 4;gate 9;gate 3").shut(5, 0), 3);
        // Shut or not, all to ground is all to ground: nothing is best.
        FoxReply ground = Due.hunted("fox 10 1 9;rider 5 4;gate 3;gate 1;gate 2");
        E.due("one is IT anyway", ground.shut(3, 0), -1);
        E.due("one is IT anyway: how often", ground.shut(3, 1), 1);
    }

    private static void help() {
        E.sentence("HELP for n STEPS (1 to 60): the fewest RIDERS whose PACE is 9 from now on, so that nobody is IT twice in these: how many");
        // Rider 2 is IT in STEPS 0 and 4; helped, only in STEP 0.
        FoxReply fox = Due.hunted("fox 10 2 0;rider 3 1;rider 3 1;rider 30 1;gate 2;gate 0");
        E.due("once is not twice", fox.help(4, 0), 0);
        E.due("once is not twice: the set", fox.help(4, 1), 0);
        E.due("twice", fox.help(5, 0), 1);
        E.due("fewer, though more as bits", fox.help(5, 1), 4);
        fox.step();
        E.due("only these count", fox.help(4, 0), 0);
        FoxReply one = Due.hunted("fox 60 1 0;rider 0 1;gate 41;gate 40");
        E.due("59 STEPS", one.help(59, 0), 0);
        E.due("60 STEPS", one.help(60, 0), -2);
        E.due("60 STEPS: the set", one.help(60, 1), -2);
        E.due("61 STEPS", one.help(61, 0), -1);
        E.due("0 STEPS", one.help(0, 0), -1);
        // Riders 0 and 1 are alike, and each is IT twice without the other.
        FoxReply both = Due.hunted("fox 10 2 0;rider 30 1;rider 30 1;rider 3 1;gate 2;gate 0");
        E.due("two", both.help(5, 0), 2);
        E.due("two: the set", both.help(5, 1), 3);
        E.due("no RIDERS", Due.hunted("fox 2 1 0" + ALL_GATES).help(60, 0), 0);

        E.sentence("of several sets the least as bits");
        // By this RULE who has PACE 9 stays: rider 0 or 1, in STEP 4 LAST then in place of rider 2.
        FoxReply alike = E.ruled("fox 10 2 0;rider 5 1;rider 5 1;rider 6 1;gate 2;gate 0", "ride 0 if pace = 9;ride 1");
        E.due("how many", alike.help(5, 0), 1);
        E.due("the set", alike.help(5, 1), 1);
    }

    private static void all() {
        E.sentence("ALL: the first STEP, of 200, behind which all RIDERS have been IT.");
        E.due("the 200th", passing("step >= 198").allIt(), 199);
        E.due("the 201st", passing("step >= 199").allIt(), -2);
        FoxReply fox = Due.hunted("fox 2 1 9;rider 9 1;rider 8 1" + ALL_GATES);
        E.due("this and the next", fox.allIt(), 1);
        fox.step();
        E.due("who was it before counts", fox.allIt(), 1);
    }

    private static void meet() {
        E.sentence("MEET of two RIDERS: the first STEP, this one the first, of 200, at whose begin they have run alike.");
        E.due("this one", Due.hunted("fox 9 1 0;rider 5 1;rider 5 2").meet(0, 1), 0);
        E.due("the 200th", passing("step = 198").meet(0, 1), 199);
        E.due("the 201st", passing("step = 199").meet(0, 1), -2);
        FoxReply fox = passing("step = 199");
        fox.step();
        E.due("the 200th from STEP 1 on", fox.meet(0, 1), 200);
        // To ground or not.
        FoxReply ground = Due.hunted("fox 2 1 9;rider 9 1;rider 8 1;gate 1");
        ground.step();
        ground.hold(1, 1);
        E.due("to ground", ground.meet(0, 1), 1);
    }

    private static void bunches() {
        E.sentence("BUNCHES: RIDERS not to ground, by how far they have run, each and the next of one bunch, if one has run no more than 2 fields more than the other: how many");
        E.due("none", Due.hunted("fox 9 1 0").bunches(0), 0);
        E.due("alike", Due.hunted("fox 9 1 0;rider 5 1;rider 5 1").bunches(0), 1);
        E.due("2 more", Due.hunted("fox 9 1 0;rider 5 1;rider 7 1").bunches(0), 1);
        E.due("3 more", Due.hunted("fox 9 1 0;rider 5 1;rider 8 1").bunches(0), 2);
        E.due("2 and 2", Due.hunted("fox 9 1 0;rider 5 1;rider 9 1;rider 7 1").bunches(0), 1);
        E.due("six", Due.hunted("fox 9 1 0;rider 0 1;rider 3 1;rider 6 1;rider 9 1;rider 12 1;rider 15 1").bunches(0), 6);
        // At 89, 87 and 85, of whom the one between is to ground.
        FoxReply fox = Due.hunted("fox 60 1 9;rider 10 1;rider 12 1;rider 14 1;gate 41");
        fox.step();
        fox.hold(0, 2);
        fox.hold(1, 4);
        E.due("one to ground joins nobody", fox.bunches(0), 2);
        fox.dig(2);
        E.due("dug out", fox.bunches(0), 1);
        E.due("dug out: all", fox.bunches(1), 7);

        E.sentence("the largest, of several the one farthest ahead, as bits");
        E.due("each alone", Due.hunted("fox 9 1 0;rider 9 1;rider 0 1;rider 5 1").bunches(1), 2);
        E.due("larger, though behind", Due.hunted("fox 9 1 0;rider 9 1;rider 0 1;rider 8 1").bunches(1), 5);
        E.due("two of two", Due.hunted("fox 9 1 0;rider 9 1;rider 0 1;rider 8 1;rider 1 1").bunches(1), 10);
        E.due("all six", Due.hunted("fox 9 1 0" + ";rider 5 1".repeat(6)).bunches(1), 63);
        E.due("none", Due.hunted("fox 9 1 0").bunches(1), 0);
    }

    private static void pence() {
        E.sentence("PENCE (0 to 9999) among RIDERS by how often they were it: each the part downwards");
        FoxReply one = Due.hunted("fox 2 1 0;rider 9 1;rider 0 1" + ALL_GATES);
        one.step();
        E.due("0", one.pence(0, 0), 0);
        E.due("9999", one.pence(9999, 0), 9999);
        E.due("who never was", one.pence(9999, 1), 0);
        E.due("10000", one.pence(10000, 0), -1);
        E.due("-1", one.pence(-1, 0), -1);
        E.due("-1 of who never was", one.pence(-1, 1), -1);
        Edges.steps(one, 299);
        // 300 times 9999 is a large number.
        E.due("300 times", one.pence(9999, 0), 9999);

        E.sentence("what is left, one each, to those whose part lost most by that, of several the least first (nothing, if nobody was)");
        E.due("nobody was", Due.hunted("fox 2 1 0;rider 9 1").pence(9999, 0), 0);
        FoxReply three = Due.hunted("fox 2 1 9;rider 9 1;rider 8 1;rider 7 1;rider 6 1" + ALL_GATES);
        Edges.steps(three, 3);
        int[][] parts = {{0, 0, 0}, {1, 0, 0}, {1, 1, 0}, {1, 1, 1}, {2, 1, 1}, {2, 2, 1}};
        for (int much = 0; much < parts.length; much++) {
            for (int i = 0; i < 3; i++) {
                E.due(much + " of rider " + i, three.pence(much, i), parts[much][i]);
            }
            E.due(much + " of who never was", three.pence(much, 3), 0);
        }
        // Once, once and twice: of 5 the parts are 1, 1 and 2, which lost 1, 1 and 2 of 4.
        three.dig(2);
        three.hold(2, 3);
        three.step();
        E.due("rider 2 was twice", three.rider(2, 3), 2);
        E.due("lost most", three.pence(5, 2), 3);
        E.due("lost less", three.pence(5, 0), 1);
        // Of 7 they are 1, 1 and 3, which lost 3, 3 and 2: two are left.
        E.due("7 of rider 0", three.pence(7, 0), 2);
        E.due("7 of rider 1", three.pence(7, 1), 2);
        E.due("7 of rider 2", three.pence(7, 2), 3);
    }

    private static void rests() {
        E.sentence("RESTS of two RIDERS for n STEPS (1 to 20): each has PACE 1, 3, 5, 7 or 9 from now on");
        // In the 20th STEP rider 1 flees by 3, rider 0 too, who is level then, and so round and round.
        FoxReply late = Due.hunted("fox 60 1 0;rider 10 2;rider 20 2;gate 0");
        E.due("19 STEPS", late.rests(0, 1, 19, 0), 1);
        E.due("20 STEPS", late.rests(0, 1, 20, 0), 0);
        E.due("20 STEPS: there is none", late.rests(0, 1, 20, 1), -2);
        E.due("21 STEPS", late.rests(0, 1, 21, 0), -1);
        E.due("0 STEPS", late.rests(0, 1, 0, 0), -1);
        // Rider 1 must come level with rider 2, who is of greater number: by 8 more, so by 9.
        FoxReply nine = Due.hunted("fox 60 1 0;rider 0 4;rider 20 4;rider 13 1;gate 41");
        E.due("by 9", nine.rests(0, 1, 1, 2), 9);
        E.due("by 9: rider 0 by 1", nine.rests(0, 1, 1, 1), 1);
        E.due("turned: by 9", nine.rests(1, 0, 1, 1), 9);
        E.due("turned: rider 0 by 1", nine.rests(1, 0, 1, 2), 1);

        E.sentence("each has 5 less for each time they are IT in these, and half of that PACE, downwards, less: twos of which neither would have more by another one: how many");
        // By 9 they lose 4, less than the 5 of being IT; out of reach they stay by 1.
        E.due("4 are less than 5", nine.rests(0, 1, 1, 0), 1);
        E.due("turned: 4 are less than 5", nine.rests(1, 0, 1, 0), 1);
        nine.hold(1, 2);
        E.due("out of reach: how many", nine.rests(0, 1, 1, 0), 1);
        E.due("out of reach", nine.rests(0, 1, 1, 2), 1);
        E.due("turned: out of reach: how many", nine.rests(1, 0, 1, 0), 1);
        E.due("turned: out of reach", nine.rests(1, 0, 1, 1), 1);
        E.due("no gate, 1 and 1", late.rests(0, 1, 1, 0), 1);
        // By 1 rider 0 holds rider 1 fast, and both are IT; by 3 neither is, so rider 1 stays by 1.
        FoxReply fast = E.ruled("fox 20 1 2;rider 10 1;rider 9 1;rider 8 1;rider 8 1;gate 2;gate 3",
                "ride pace if rider = 0 and step = 0;ride pace if rider = 1 and step = 1 and level = 0");
        E.due("by what the other has: how many", fast.rests(0, 1, 3, 0), 1);
        E.due("by what the other has: the one", fast.rests(0, 1, 3, 1), 3);
        E.due("by what the other has: the other", fast.rests(0, 1, 3, 2), 1);
        E.due("turned: how many", fast.rests(1, 0, 3, 0), 1);
        E.due("turned: the one", fast.rests(1, 0, 3, 1), 1);
        E.due("turned: the other", fast.rests(1, 0, 3, 2), 3);

        E.sentence("from now on, all else as it is: each has 5 less");
        // Rider 2 is LAST by PACE 1; by 9 rider 1 would have to come level again.
        FoxReply third = Due.hunted("fox 60 1 0;rider 0 4;rider 8 4;rider 9 1;gate 41");
        E.due("by theirs, 1", third.rests(0, 1, 1, 2), 1);
        third.spur(2, 9);
        E.due("by theirs, 9", third.rests(0, 1, 1, 2), 9);
        third.gate(41);
        E.due("no gate", third.rests(0, 1, 1, 2), 1);
        E.due("their PACES stay", third.rider(0, 1) * 100 + third.rider(1, 1) * 10 + third.rider(2, 1), 449);

        E.sentence("the first (by the first one, then the second one)");
        // Both are IT if they ride alike and stay level; of 1 and 3, and 3 and 1, nobody would go.
        FoxReply two = E.ruled("fox 20 1 2;rider 10 1;rider 10 1;rider 5 1;rider 5 1;gate 6;gate 7",
                "ride 0 if rider >= 2;ride pace if step = 0 or level = 0");
        E.due("how many", two.rests(0, 1, 7, 0), 2);
        E.due("of the one", two.rests(0, 1, 7, 1), 1);
        E.due("of the other", two.rests(0, 1, 7, 2), 3);
        E.due("turned: of the one", two.rests(1, 0, 7, 1), 1);
        E.due("turned: of the other", two.rests(1, 0, 7, 2), 3);
        // Rider 0 is not IT in the first six, so need not go.
        E.due("six STEPS", two.rests(0, 1, 6, 0), 1);
        E.due("six STEPS turned", two.rests(1, 0, 6, 1), 3);
    }

    private static void open() {
        E.sentence("OPEN for a RIDER and n STEPS (1 to 60): the field at which one more gate would be best from now on, or at none, so that they are IT most often in these");
        FoxReply two = Due.hunted("fox 2 1 0;rider 0 1;gate 0");
        E.due("1 STEP", two.open(0, 1, 1), 1);
        E.due("60 STEPS", two.open(0, 60, 1), 60);
        E.due("60 STEPS: the field", two.open(0, 60, 0), 1);
        E.due("61 STEPS", two.open(0, 61, 1), -2);
        E.due("0 STEPS", two.open(0, 0, 1), -2);
        two.gate(1);
        E.due("all are gates", two.open(0, 60, 0), -1);
        E.due("all are gates: how often", two.open(0, 60, 1), 60);
        // Rider 1 is at the front: it isn't they who are IT.
        E.due("not they", Due.hunted("fox 9 1 0;rider 9 1;rider 0 1").open(1, 60, 0), -1);
        E.due("not they: how often", Due.hunted("fox 9 1 0;rider 9 1;rider 0 1").open(1, 60, 1), 0);

        E.sentence("of several at none, then the least; how often. CLOSE");
        FoxReply fox = Due.hunted("fox 60 1 0;rider 0 1");
        E.due("the next one", fox.open(0, 1, 0), 41);
        E.due("the least of nineteen", fox.open(0, 19, 0), 41);
        E.due("round to field 0", fox.open(0, 20, 0), 0);
        E.due("once round", fox.open(0, 60, 0), 0);
        // By nines to 58, and on to field 7.
        E.due("over the end of the round", Due.hunted("fox 60 9 0;rider 0 1").open(0, 3, 0), 0);
        // One more gate within the LAW of the one there is does nothing.
        FoxReply ground = Due.hunted("fox 60 1 9;rider 0 1;gate 41");
        E.due("at none", ground.open(0, 9, 0), -1);
        E.due("at none: how often", ground.open(0, 9, 1), 1);
        E.due("up again", ground.open(0, 10, 0), 50);
    }

    private static void close() {
        E.sentence("CLOSE for n STEPS (1 to 100): of all begins of these, and the end of the last, the least that the fox has run more than a RIDER not to ground (99999: none ever is)");
        // To ground for STEPS 1 to 9, and not IT in any of these.
        FoxReply fox = Due.hunted("fox 60 1 9;rider 5 1;gate 41");
        fox.step();
        E.due("none ever is", fox.close(8, 0), 99999);
        E.due("none ever is: who", fox.close(8, 1), -2);
        E.due("none ever is: which STEP", fox.close(8, 2), -2);
        E.due("the end of the last", fox.close(9, 0), 14);
        E.due("the end of the last: who", fox.close(9, 1), 0);
        E.due("the end of the last: which STEP", fox.close(9, 2), 10);
        E.due("no RIDERS", Due.hunted("fox 9 1 0").close(100, 0), 99999);
        FoxReply nearer = Due.hunted("fox 60 1 0;rider 99 2");
        // A field nearer in each STEP, from 99 on.
        E.due("1 STEP", nearer.close(1, 0), 98);
        E.due("97 STEPS", nearer.close(97, 0), 2);
        // Level but for the field that the fox has run in the same STEP.
        E.due("98 STEPS", nearer.close(98, 0), 1);
        E.due("100 STEPS", nearer.close(100, 2), 98);
        E.due("101 STEPS", nearer.close(101, 0), -1);
        E.due("0 STEPS", nearer.close(0, 0), -1);
        E.due("as it begins", Due.hunted("fox 60 9 0;rider 0 1").close(100, 0), 0);

        E.sentence("who, of several the one of the first STEP, then the least; which STEP");
        FoxReply alike = Due.hunted("fox 10 1 0;rider 5 1;rider 4 1;rider 4 1");
        E.due("who", alike.close(100, 1), 1);
        E.due("which STEP", alike.close(100, 2), 0);
        // Rider 0 comes as near in STEP 1 as rider 1 was in STEP 0.
        FoxReply later = Due.hunted("fox 10 2 0;rider 5 3;rider 4 1");
        E.due("the first STEP, though greater", later.close(1, 1), 1);
        E.due("the first STEP", later.close(1, 2), 0);
    }

    private static void notes() {
        E.sentence("NOTES 0 to 9, told: at the begin of the n-th STEP of all (0 to 60) a RIDER had run so far (0 to 9999).");
        FoxReply fox = Due.hunted("fox 9 1 0;rider 9 1");
        E.due("n 0, far 0", fox.note(0, 0, 0), 1);
        E.due("n 60, far 9999", fox.note(60, 0, 9999), 2);
        E.due("n 61", fox.note(61, 0, 0), -2);
        E.due("n -2", fox.note(-2, 0, 0), -2);
        E.due("far 10000", fox.note(0, 0, 10000), -2);
        E.due("far -1", fox.note(0, 0, -1), -2);
        for (int i = 3; i <= 10; i++) {
            E.due("told again", fox.note(0, 0, 0), i);
        }
        E.due("an eleventh", fox.note(0, 0, 0), -2);
    }

    private static void ruled() {
        E.sentence("RULED: which of the RULES, and of none, so that from the begin on, all as the text told it, all NOTES are so: how many");
        // By none at 91 + n, by RULE 0 always at 91, by RULE 1 at 91 + n up to STEP 60.
        FoxReply fox = Due.hunted("fox 60 1 0;rider 9 1");
        Due.rule(fox, "ride 0");
        Due.rule(fox, "ride 1 if step < 59");
        E.due("no NOTES", fox.ruled(0), 3);
        fox.note(0, 0, 91);
        E.due("as it begins", fox.ruled(0), 3);
        fox.note(59, 0, 150);
        E.due("STEP 59", fox.ruled(0), 2);
        fox.note(60, 0, 150);
        E.due("STEP 60", fox.ruled(0), 1);
        E.due("STEP 60: RULE 1", fox.ruled(1), 1);
        // All by hand is not as the text told it.
        fox.force(0);
        fox.spur(0, 9);
        fox.hold(0, 9);
        fox.gate(41);
        fox.step();
        E.due("whatever happened", fox.ruled(0), 1);
        fox.note(60, 0, 151);
        E.due("never both", fox.ruled(0), 0);
        FoxReply gates = Due.hunted("fox 60 1 9;rider 9 1;gate 41");
        gates.gate(41);
        gates.note(2, 0, 92);
        E.due("its gates as told", gates.ruled(0), 1);

        E.sentence("the first (none ahead of 0, told as NONE)");
        FoxReply first = Due.hunted("fox 60 1 0;rider 9 1");
        Due.rule(first, "ride 1");
        Due.rule(first, "ride 0");
        Due.rule(first, "ride 0 + 0");
        E.due("none ahead of 0", first.ruled(1), -1);
        first.note(1, 0, 91);
        E.due("1 ahead of 2", first.ruled(1), 1);
        E.due("1 and 2", first.ruled(0), 2);
    }

    private static void look() {
        E.sentence("LOOK at the begin of the n-th STEP: the RIDER by how far they have run then these part best: the most alike are fewest, of several the least; how many.");
        FoxReply fox = Due.hunted("fox 60 1 0;rider 50 9;rider 50 9;rider 50 9");
        Due.rule(fox, "ride 9 if rider = 0;ride step");
        Due.rule(fox, "ride 9 if rider = 0;ride 0");
        Due.rule(fox, "ride 9 if rider = 0;ride 1 if rider = 1");
        E.due("as it begins: all alike", fox.look(0, 1), 4);
        E.due("as it begins: the least", fox.look(0, 0), 0);
        // In STEP 1 riders 1 and 2 are at 59, 50, 50, 51 and 59, 50, 50, 50.
        E.due("STEP 1: the most alike", fox.look(1, 1), 2);
        E.due("STEP 1: who", fox.look(1, 0), 1);
        fox.note(1, 2, 50);
        E.due("none is out: STEP 0", fox.look(0, 1), 3);
        // In STEP 2 they are at 51, 50, 52 and 51, 50, 50.
        E.due("STEP 2: each by themselves", fox.look(2, 1), 1);
        E.due("STEP 2: who", fox.look(2, 0), 1);
        fox.note(2, 2, 50);
        E.due("by rider 1 only", fox.look(60, 0), 1);
        fox.note(3, 1, 50);
        E.due("one is left: the least", fox.look(60, 0), 0);
        E.due("one is left", fox.look(60, 1), 1);
        E.due("STEP 61", fox.look(61, 0), -1);
        FoxReply first = Due.hunted("fox 60 1 0;rider 50 9");
        for (int i = 0; i < 6; i++) {
            Due.rule(first, "ride pace if step < 1");
        }
        E.due("all seven alike: the RIDER", first.look(1, 0), 0);
        E.due("all seven alike", first.look(1, 1), 7);
        E.due("six alike", first.look(2, 1), 6);
        first.note(2, 0, 68);
        E.due("only none: the RIDER", first.look(2, 0), 0);
        E.due("only none", first.look(2, 1), 1);
        FoxReply end = Due.hunted("fox 60 1 0;rider 50 9");
        Due.rule(end, "ride 1");
        Due.rule(end, "ride 2");
        end.note(1, 0, 52);
        E.due("only the last", end.look(1, 1), 1);
        // At the begin of the 60th, not of the 59th.
        FoxReply late = Due.hunted("fox 60 1 0;rider 9 1");
        Due.rule(late, "ride 1 if step < 59");
        E.due("STEP 59: alike", late.look(59, 1), 2);
        E.due("STEP 60: not", late.look(60, 1), 1);
    }

    private static void draws() {
        E.sentence("DRAWS: x (0 to 2147483647; 0 at first)");
        FoxReply fox = new FoxReply();
        E.due("at first", fox.count(13), 0);
        E.due("the greatest", fox.seed(Integer.MAX_VALUE), 0);
        E.due("the greatest stays", fox.count(13), Integer.MAX_VALUE);
        E.due("below 0", fox.seed(-1), -1);
        E.due("0", fox.seed(0), Integer.MAX_VALUE);
    }

    private static void mornings() {
        E.sentence("MORNINGS m times (1 to 10) n STEPS (1 to 60) from now on");
        FoxReply far = Due.hunted("fox 60 9 0;rider 9 1");
        E.due("once one", far.mornings(1, 1, 50, 1), 109);
        E.due("ten times sixty", far.mornings(10, 60, 50, 1), 6400);
        E.due("m 0", far.mornings(0, 1, 50, 1), -1);
        E.due("m 11", far.mornings(11, 1, 50, 1), -1);
        E.due("n 0", far.mornings(1, 0, 50, 1), -1);
        E.due("n 61", far.mornings(1, 61, 50, 1), -1);

        // Who stumbles changes neither where the fox runs nor how many are to ground: all x are alike.
        E.sentence("becomes x * 1103515245 + 12345, of 2147483648 the rest; a DRAW is x / 65536.");
        FoxReply drawn = Due.hunted("fox 10 3 2;rider 5 4;rider 8 2;rider 6 3;gate 2;gate 7");
        int[] xs = {0, 1, 65535, 65536, 1103515245, 2147471302, Integer.MAX_VALUE};
        for (int x : xs) {
            drawn.seed(x);
            E.due("how often by " + x, drawn.mornings(10, 60, 50, 0), 300);
            E.due("how far by " + x, drawn.mornings(10, 60, 50, 1), 2500);
            E.due("x stays " + x, drawn.count(13), x);
        }

        E.sentence("ahead of each a DRAW mod 100: is it below p (0 to 100), and are there RIDERS, a DRAW mod how many: that one, if not to ground, has run 2 fields less, 0 at least");
        E.due("p -1", far.mornings(1, 1, -1, 1), -1);
        E.due("p 101", far.mornings(1, 1, 101, 1), -1);
        E.due("p 0", far.mornings(1, 1, 0, 1), 109);
        E.due("p 100", far.mornings(1, 1, 100, 1), 109);
        E.due("no RIDERS", Due.hunted("fox 2 1 0" + ALL_GATES).mornings(10, 60, 100, 0), 0);
        E.due("no RIDERS: how far", Due.hunted("fox 2 1 0" + ALL_GATES).mornings(10, 60, 100, 1), 1600);
        FoxReply slow = E.ruled("fox 2 1 0;rider 99 1" + ALL_GATES, "ride 0");
        E.due("0 at least", slow.mornings(10, 60, 100, 0), 600);

        E.sentence("how often anybody is IT in these; how far the fox has run at the end, all together (nothing stays; x as it was)");
        FoxReply fox = Due.hunted("fox 2 1 2;rider 9 1;rider 50 1" + ALL_GATES);
        fox.seed(Integer.MAX_VALUE);
        fox.step();
        String before = Edges.state(fox);
        // Rider 1 is to ground; of three STEPS each has one who is up.
        E.due("how often", fox.mornings(4, 3, 99, 0), 12);
        E.due("how far", fox.mornings(4, 3, 99, 1), 416);
        E.due("x", fox.count(13), Integer.MAX_VALUE);
        E.due("nothing stays", before.equals(Edges.state(fox)) ? 1 : 0, 1);
        E.due("all to ground", Due.hunted("fox 2 1 3;rider 9 1" + ALL_GATES).mornings(2, 7, 100, 0), 6);
    }

    private static void images() {
        E.sentence("IMAGES 0 to 3: all but the TAPE and the RULES, as it is (the RULE IN FORCE, too)");
        FoxReply fox = E.ruled("fox 9 1 0;rider 9 1;gate 1", "ride 1");
        fox.seed(5);
        fox.note(0, 0, 91);
        E.due("image(0)", fox.image(0), 0);
        E.due("image(3)", fox.image(3), 0);
        E.due("image(4)", fox.image(4), -1);
        E.due("image(-1)", fox.image(-1), -1);
        String before = Edges.state(fox);
        Due.hunt(fox, "fox 8 2 1;rider 8 2;rider 7 3;gate 2");
        fox.force(-1);
        fox.seed(6);
        E.due("back(3)", fox.back(3), 0);
        E.due("all as it was", before.equals(Edges.state(fox)) ? 1 : 0, 1);
        Due.rule(fox, "ride 0");
        fox.feed(1, 2, 3, 4, 5);
        E.due("back(0)", fox.back(0), 0);
        E.due("the TAPE is not in it", fox.count(14), 20);
        E.due("the RULES are not in it", fox.count(5), 2);
        FoxReply told = Due.hunted("fox 60 1 0;rider 50 9;rider 50 9");
        Due.rule(told, "ride 4 if rider = 1");
        told.note(1, 1, 54);
        told.note(2, 0, 50);
        told.image(2);
        told.note(-1, 0, 0);
        told.note(0, 0, 1);
        told.note(0, 0, 1);
        E.due("other NOTES: ruled(0)", told.ruled(0), 0);
        told.back(2);
        E.due("its NOTES: count(11)", told.count(11), 2);
        E.due("its NOTES: ruled(0)", told.ruled(0), 1);
        E.due("its NOTES: ruled(1)", told.ruled(1), 0);
        told.note(2, 1, 59);
        E.due("and one more", told.ruled(0), 0);
        told.back(2);
        E.due("an IMAGE is not told more", told.ruled(0), 1);

        E.sentence("gone back to, it is as it was (these stay; nothing can be UNDONE then)");
        fox.step();
        fox.step();
        E.due("two ACTS", fox.count(12), 2);
        E.due("back(3) again", fox.back(3), 0);
        E.due("none can be", fox.count(12), 0);
        E.due("undo()", fox.undo(), -1);
        E.due("the other one stays, too", fox.back(0), 0);
        fox.step();
        E.due("made anew", fox.image(0), 1);
        fox.step();
        E.due("back to that", fox.back(0), 1);
        E.due("and to the old one", fox.back(3), 0);
    }
}
