/** Terms, the first part: each sentence of HUNT, RULES and FAULTS that names an edge. */
public final class TextEdgeTest {
    private static final Edges E = new Edges();
    private static final String FOX = "fox 2 1 0";
    private static final String IF = "ride 1 if ";

    public static void main(String[] args) {
        huntBytes();
        huntClauses();
        foxClause();
        riderClause();
        gateClause();
        riders();
        begin();
        ruleNumbers();
        ruleClauses();
        tests();
        facts();
        signs();
        sums();
        values();
        wordLetters();
        blanks();
        depth();
        sixty();
        faultPlaces();
        faultKinds();
        ofOnePlace();
        E.close();
    }

    private static String times(int n, String text) {
        return text.repeat(n);
    }

    private static void huntBytes() {
        E.sentence("A HUNT is a text of at most 400 bytes");
        FoxReply fox = new FoxReply();
        E.due("400 bytes", Due.hunt(fox, "fox 10 1 0;" + times(383, " ") + "gate 1"), 0);
        E.due("the 400th is read", fox.gateAt(1), 1);
        Due.tell(fox, "fox 10 1 0;" + times(384, " ") + "gate 1");
        E.due("a 401st doesn't come", fox.count(14), 400);
        E.due("end(401)", fox.end(401), -1);
        E.due("the gate has no number", fox.hunt(), -2 - (1 + 8 * 400));
    }

    private static void huntClauses() {
        E.sentence("CLAUSE { ; CLAUSE }, 40 at most");
        E.huntStands(FOX, 0);
        E.huntStands(FOX + times(39, ";gate 1"), 0);
        E.huntFault(FOX + times(39, ";gate 1") + ";^gate 1", 4);
        E.huntFault(FOX + times(39, ";gate 1") + ";  ^rider 0 1;x", 4);
        E.huntFault(FOX + times(38, ";gate 1") + ";^", 0);
        E.huntFault("^;" + FOX, 0);
        E.huntFault(FOX + ";^;gate 1", 0);
        E.huntFault(FOX + " ^gate 1", 0);
        E.huntFault("^", 0);
    }

    private static void foxClause() {
        E.sentence("fox NUMBER NUMBER NUMBER");
        E.huntFault("fox^", 0);
        E.huntFault("fox 2^", 0);
        E.huntFault("fox 2 1^", 0);
        E.huntFault("fox 2 1^;gate 1", 0);
        E.huntFault("fox 2 1 0 ^0", 0);
        E.huntFault("fox ^x 1 0", 0);
        E.huntFault("fox ^-2 1 0", 0);

        E.sentence("ROUND 2 to 60, fields in a round");
        FoxReply least = Due.hunted("fox 2 1 0");
        E.due("round 2", least.count(0), 2);
        E.due("field 1", least.gateAt(1), 0);
        E.due("field 2", least.gateAt(2), -1);
        FoxReply most = Due.hunted("fox 60 1 0");
        E.due("round 60", most.count(0), 60);
        E.due("field 59", most.gateAt(59), 0);
        E.due("field 60", most.gateAt(60), -1);
        E.huntFault("fox ^0 1 0", 1);
        E.huntFault("fox ^1 1 0", 1);
        E.huntFault("fox ^61 1 0", 1);
        E.huntFault("fox ^65538 1 0", 1);
        E.huntFault("fox ^4294967298 1 0", 1);

        E.sentence("PACE 1 to 9 of the fox");
        E.due("pace 1", Due.hunted("fox 2 1 0").count(1), 1);
        E.due("pace 9", Due.hunted("fox 2 9 0").count(1), 9);
        E.huntFault("fox 2 ^0 0", 1);
        E.huntFault("fox 2 ^10 0", 1);

        E.sentence("LAW 0 to 9, steps for which one goes to ground");
        E.due("law 0", Due.hunted("fox 2 1 0").count(2), 0);
        E.due("law 9", Due.hunted("fox 2 1 9").count(2), 9);
        E.huntFault("fox 2 1 ^10", 1);

        E.sentence("once, the first CLAUSE");
        E.huntFault(FOX + ";^" + FOX, 4);
        E.huntFault(FOX + ";gate 1;^fox", 4);
        E.huntFault("^rider 0 1;" + FOX, 4);
        E.huntFault(" ^gate 0;" + FOX, 4);
    }

    private static void riderClause() {
        E.sentence("rider NUMBER NUMBER");
        E.huntFault(FOX + ";rider^", 0);
        E.huntFault(FOX + ";rider 0^", 0);
        E.huntFault(FOX + ";rider 0^;gate 1", 0);
        E.huntFault(FOX + ";rider 0 1 ^1", 0);

        E.sentence("START 0 to 99, how far behind the fox");
        E.due("start 0", Due.hunted(FOX + ";rider 0 1").rider(0, 0), 100);
        E.due("start 99", Due.hunted(FOX + ";rider 99 1").rider(0, 0), 1);
        E.huntFault(FOX + ";rider ^100 1", 1);

        E.sentence("how far behind the fox; PACE 1 to 9)");
        E.due("pace 1", Due.hunted(FOX + ";rider 0 1").rider(0, 1), 1);
        E.due("pace 9", Due.hunted(FOX + ";rider 0 9").rider(0, 1), 9);
        E.huntFault(FOX + ";rider 0 ^0", 1);
        E.huntFault(FOX + ";rider 0 ^10", 1);
    }

    private static void gateClause() {
        E.sentence("gate NUMBER (a field of the round, 0 to ROUND - 1");
        E.huntFault(FOX + ";gate^", 0);
        E.huntFault(FOX + ";gate 1 ^1", 0);
        E.due("field 0", Due.hunted("fox 2 1 0;gate 0").gateAt(0), 1);
        E.due("field 1 of 2", Due.hunted("fox 2 1 0;gate 1").gateAt(1), 1);
        E.huntFault("fox 2 1 0;gate ^2", 1);
        E.due("field 59 of 60", Due.hunted("fox 60 1 0;gate 59").gateAt(59), 1);
        E.huntFault("fox 60 1 0;gate ^60", 1);

        E.sentence("told already: nothing new");
        FoxReply fox = Due.hunted("fox 9 1 0;gate 4;gate 4;gate 5;gate 4;gate 5");
        E.due("gateAt(4)", fox.gateAt(4), 1);
        E.due("gateAt(5)", fox.gateAt(5), 1);
        E.due("count(4)", fox.count(4), 2);
    }

    private static void riders() {
        E.sentence("RIDERS 0 to 5, in the order told.");
        E.due("none", Due.hunted(FOX).rider(0, 0), -1);
        FoxReply six = new FoxReply();
        E.due("six", Due.hunt(six, FOX + ";rider 5 1;rider 1 2;gate 0;rider 4 3;rider 2 4;rider 0 5;rider 3 6"), 6);
        for (int i = 0; i < 6; i++) {
            E.due("pace of " + i, six.rider(i, 1), i + 1);
        }
        E.due("the last told", six.rider(5, 0), 97);
        E.due("rider 6", six.rider(6, 0), -1);
        E.huntFault(FOX + times(6, ";rider 0 1") + ";^rider 0 1", 4);
    }

    private static void begin() {
        E.sentence("It is STEP 0; the fox has run 100 fields, a RIDER 100 less START; nobody is to ground, nobody was it.");
        FoxReply fox = Due.hunted("fox 2 1 9;rider 99 1;rider 7 1;gate 0;gate 1");
        fox.step();
        Due.hunt(fox, "fox 2 1 9;rider 99 1;rider 7 1;gate 0;gate 1");
        E.due("STEP", fox.count(7), 0);
        E.due("the fox", fox.count(8), 100);
        E.due("rider 0", fox.rider(0, 0), 1);
        E.due("rider 1", fox.rider(1, 0), 93);
        E.due("to ground", fox.count(9), 0);
        E.due("rider 0 to ground", fox.rider(0, 2), 0);
        E.due("was it", fox.count(10), 0);
        E.due("rider 0 was it", fox.rider(0, 3), 0);
    }

    private static void ruleNumbers() {
        E.sentence("RULES 0 to 5: texts likewise");
        FoxReply fox = new FoxReply();
        for (int i = 0; i <= 5; i++) {
            E.due("rule " + i, Due.rule(fox, "ride " + i), i);
        }
        E.due("a seventh", Due.rule(fox, "ride 6"), -1);
        E.due("force(5)", fox.force(5), -1);
        E.due("force(6)", fox.force(6), -2);
        E.ruleStands("ride" + times(395, " ") + "1");
        E.ruleFault("ride" + times(396, " ") + "^", 0);
        E.ruleFault("^", 0);
    }

    private static void ruleClauses() {
        E.sentence("12 CLAUSES at most");
        E.ruleStands("ride 1" + times(11, ";ride 1 if 1=1"));
        E.ruleFault("ride 1" + times(11, ";ride 1") + ";^ride 1", 4);
        E.ruleFault("ride 1" + times(10, ";ride 1") + ";^", 0);

        E.sentence("ride SUM [ if TEST ]");
        E.ruleStands("ride 1");
        E.ruleStands("ride 1 if 1=1");
        E.ruleFault("ride^", 0);
        E.ruleFault("ride ^if 1=1", 0);
        E.ruleFault("ride 1 if^", 0);
        E.ruleFault("ride 1 if 1=1 ^if 1=1", 0);
        E.ruleFault("ride 1 ^1=1", 0);
        E.ruleFault("ride 1 ^ride 1", 0);
        E.ruleFault("^1 if 1=1", 0);
        E.ruleFault("^;ride 1", 0);
        E.ruleFault("ride 1;^;ride 1", 0);
        E.ruleFault("^" + FOX, 0);
    }

    private static void tests() {
        E.sentence("TEST: PART { or PART }");
        E.ruleStands(IF + "1=1 or 1=2 or 1=3");
        E.ruleFault(IF + "^or 1=1", 0);
        E.ruleFault(IF + "1=1 or^", 0);
        E.ruleFault(IF + "1=1 or ^or 1=1", 0);
        E.ruleFault(IF + "1=1 ^2=2", 0);

        E.sentence("PART: FACT { and FACT }");
        E.ruleStands(IF + "1=1 and 1=2 and 1=3");
        E.ruleFault(IF + "^and 1=1", 0);
        E.ruleFault(IF + "1=1 and^", 0);
        E.ruleFault(IF + "1=1 and ^and 1=1", 0);
        E.ruleFault(IF + "1=1 and ^;ride 1", 0);
    }

    private static void facts() {
        E.sentence("FACT: not FACT | [ TEST ] (these brackets are signs) | SUM SIGN SUM");
        E.ruleStands(IF + "not 1=1");
        E.ruleStands(IF + "[1=1]");
        E.ruleStands(IF + "[1=1 or 1=2] and not[[1=1]]");
        E.ruleFault(IF + "not^", 0);
        E.ruleFault(IF + "1=1 ^not 1=1", 0);
        E.ruleFault(IF + "[^]", 0);
        E.ruleFault(IF + "[1=1^", 0);
        E.ruleFault(IF + "[1=1^;ride 1", 0);
        E.ruleFault(IF + "1=1^]", 0);
        E.ruleFault(IF + "[1=1]^]", 0);
        E.ruleFault(IF + "[1=1] ^= 1", 0);
        E.ruleFault(IF + "[1=1] ^+ 1 = 1", 0);
        E.ruleFault(IF + "[1^]", 0);
        E.ruleFault(IF + "1 = ^[1=1]", 0);
        E.ruleFault(IF + "1 = ^not 1=1", 0);
        E.ruleFault(IF + "1^", 0);
        E.ruleFault(IF + "1 =^", 0);
        E.ruleFault(IF + "^= 1", 0);
        E.ruleFault(IF + "1 = 1 ^= 1", 0);
        E.ruleFault("ride ^[1]", 0);
        String hunt = FOX + ";rider 9 1;rider 9 1;rider 9 1";
        E.rides(hunt, "ride 1 if not not rider = 1", 10);
        E.rides(hunt, "ride 1 if rider >= 0 and not rider = 1", 101);
        E.rides(hunt, "ride 1 if rider = 1 or not rider <= 1", 11);
        E.rides(hunt, "ride 1 if not [rider = 1 or rider = 2]", 100);
        E.rides(hunt, "ride 1 if rider = 0 and [rider = 0 or rider = 1]", 100);
        E.rides(hunt, "ride 1 if rider = 2 or [rider <= 1 and [rider = 1]]", 11);
    }

    private static void signs() {
        E.sentence("SIGN one of < <= = >= >");
        String hunt = FOX + ";rider 9 1;rider 9 1;rider 9 1";
        E.rides(hunt, "ride 1 if rider<1", 100);
        E.rides(hunt, "ride 1 if rider<=1", 110);
        E.rides(hunt, "ride 1 if rider=1", 10);
        E.rides(hunt, "ride 1 if rider>=1", 11);
        E.rides(hunt, "ride 1 if rider>1", 1);
        E.ruleFault(IF + "1 =^= 1", 0);
        E.ruleFault(IF + "1 =^< 1", 0);
        E.ruleFault(IF + "1 =^> 1", 0);
        E.ruleFault(IF + "1 <^> 1", 0);
        E.ruleFault(IF + "1 <=^= 1", 0);
        E.ruleFault(IF + "1 < ^= 1", 0);
        E.ruleFault(IF + "1 > ^= 1", 0);
        E.ruleFault(IF + "1 ^!= 1", 0);
        // Whatever joins them or turns them round.
        E.rides(hunt, "ride 1 if not rider<1", 11);
        E.rides(hunt, "ride 1 if not rider<2", 1);
        E.rides(hunt, "ride 1 if not rider>=2", 110);
        E.rides(hunt, "ride 1 if not rider<=1", 1);
        E.rides(hunt, "ride 1 if not rider=1", 101);
        E.rides(hunt, "ride 1 if not rider>=1", 100);
        E.rides(hunt, "ride 1 if not rider>1", 110);
        E.rides(hunt, "ride 1 if 1=1 and rider<1 and 1=1", 100);
        E.rides(hunt, "ride 1 if 1=1 and rider<=1 and 1=1", 110);
        E.rides(hunt, "ride 1 if 1=1 and rider>=1 and 1=1", 11);
        E.rides(hunt, "ride 1 if 1=1 and rider>1 and 1=1", 1);
    }

    private static void sums() {
        E.sentence("SUM: TERM { (+ or -) TERM }");
        E.ruleStands("ride 1+2-3+4");
        E.ruleFault("ride ^-1", 0);
        E.ruleFault("ride ^+1", 0);
        E.ruleFault("ride 1+^", 0);
        E.ruleFault("ride 1-^-1", 0);
        E.ruleFault("ride 1 +^;ride 1", 0);
        String hunt = FOX + ";rider 99 9";
        E.rides(hunt, "ride 9-3-2", 4);
        E.rides(hunt, "ride 9-3+2", 8);
        E.rides(hunt, "ride 2+3*2", 8);
        E.rides(hunt, "ride 8-3*2", 2);
        E.rides(hunt, "ride 2*3-1", 5);
        E.rides(hunt, "ride 2+9/2", 6);
        E.rides(hunt, "ride 2+9%5", 6);
        E.rides(hunt, "ride 9%5+2", 6);
        String[] right = {"1+2", "5-2", "1*3", "7/2", "7%4"};
        for (String sum : right) {
            E.rides(hunt, "ride 1 if 3=" + sum, 1);
            E.rides(hunt, "ride 1 if 2<" + sum, 1);
            E.rides(hunt, "ride 1 if 3<=" + sum, 1);
            E.rides(hunt, "ride 1 if 3>=" + sum, 1);
            E.rides(hunt, "ride 1 if 4>" + sum, 1);
            E.rides(hunt, "ride 1 if " + sum + "=3 and not " + sum + ">3", 1);
            E.rides(hunt, "ride 1 if 4=" + sum, 0);
            E.rides(hunt, "ride 1 if 3<" + sum, 0);
            E.rides(hunt, "ride 1 if 4<=" + sum, 0);
            E.rides(hunt, "ride 1 if 2>=" + sum, 0);
            E.rides(hunt, "ride 1 if 3>" + sum, 0);
        }

        E.sentence("TERM: VALUE { (* or / or %) VALUE }");
        E.ruleStands("ride 1*2/3%4");
        E.ruleFault("ride ^*1", 0);
        E.ruleFault("ride 1%^", 0);
        E.ruleFault("ride 1*^-1", 0);
        E.ruleFault("ride 1/^/1", 0);
        E.ruleFault("ride 1*^(1)", 0);
        E.rides(hunt, "ride 2*7/4", 3);
        E.rides(hunt, "ride 7/2*2", 6);
        E.rides(hunt, "ride 7%4*2", 6);
        E.rides(hunt, "ride 3*7%4", 1);
        E.rides(hunt, "ride 19/2%5", 4);
        E.rides(hunt, "ride 19%7/2", 2);
    }

    private static void values() {
        E.sentence("VALUE: NUMBER (1 to 5 digits, as far as digits go on) | WORD");
        E.ruleStands("ride 0");
        E.ruleStands("ride 99999");
        E.ruleStands("ride 00000");
        E.ruleStands(IF + "12345=12345and 00007=7");
        E.ruleFault("ride ^100000", 1);
        E.ruleFault("ride ^000001", 1);
        E.ruleFault("ride 1 + ^12345678901234567890", 1);
        E.ruleFault("ride 1 ^2", 0);
        E.rides(FOX + ";rider 9 9", "ride 00007", 7);
    }

    private static void wordLetters() {
        E.sentence("WORDS (small letters, as far as these go on)");
        E.ruleStands("ride1if2=2or3=3");
        E.ruleStands("ride gap-pace");
        E.ruleFault("ride ^gapp", 0);
        E.ruleFault("ride ^gapz", 0);
        E.ruleFault("ride ^gapa", 0);
        E.ruleFault("ride ^tap", 0);
        E.ruleFault("ride ^gab", 0);
        E.ruleFault("^hide 1", 0);
        E.huntFault("^box 2 1 0", 0);
        E.huntFault("^foz 2 1 0", 0);
        E.ruleFault("ride ^ga", 0);
        E.ruleFault("^ridegap", 0);
        E.ruleFault("ride ^Gap", 0);
        E.ruleFault("ride ^gaP", 0);
        E.ruleFault("ride gap^P", 0);
        E.ruleFault("ride pace^1", 0);
        E.ruleFault(IF + "^notgap=1", 0);
        E.ruleFault(IF + "1=1 ^orgap=1", 0);
        E.huntFault("^foxx 2 1 0", 0);
        E.huntFault("^fo 2 1 0", 0);
        E.huntFault(FOX + ";^riders 0 1", 0);
        E.huntFault(FOX + ";^gates 0", 0);
        E.huntFault(FOX + "^gate 0", 0);
    }

    private static void blanks() {
        E.sentence("Blanks (32) stand between as one likes.");
        E.huntStands("fox2 1 0;rider5 5;gate0", 1);
        E.huntStands("   fox   2   1   0   ;   rider   5   5   ;   gate   0   ", 1);
        E.ruleStands("ride1+gap*2if[1<=2and not[3=3]]");
        E.ruleStands("  ride  1  +  gap  *  2  if  [  1  <=  2  and  not  [  3  =  3  ]  ]  ;  ride  1  ");
        E.huntFault("fox^\t2 1 0", 0);
        E.huntFault(FOX + "^\n", 0);
        E.huntFault("^\u0000" + FOX, 0);
        E.huntFault(FOX + "^\u00a0;gate 1", 0);
        E.ruleFault("ride^\t1", 0);
        E.ruleFault("ride 1^\r", 0);
        // Not within a NUMBER, a WORD or a SIGN.
        E.huntFault("fox ^1 0 1 0", 1);
        E.huntFault("^f ox 2 1 0", 0);
        E.ruleFault("ride ^ga p", 0);
        E.ruleFault(IF + "1 < ^= 2", 0);
    }

    private static void depth() {
        E.sentence("[ and not lie within one another 10 deep at most");
        E.ruleStands(IF + times(10, "[") + "1=1" + times(10, "]"));
        E.ruleStands(IF + times(10, "not ") + "1=1");
        E.ruleStands(IF + times(5, "not[") + "1=1" + times(5, "]"));
        E.ruleFault(IF + times(10, "[") + "^[1=1" + times(11, "]"), 2);
        E.ruleFault(IF + times(10, "not ") + "^not 1=1", 2);
        E.ruleFault(IF + times(5, "not[") + "^not 1=1" + times(5, "]"), 2);
        E.ruleFault(IF + times(5, "[not ") + "^[1=1]" + times(5, "]"), 2);
        // Beside one another they may be as many as one likes.
        E.ruleStands(IF + times(10, "not ") + "1=1 or " + times(10, "not ") + "1=1");
        E.ruleStands(IF + times(10, "[") + "1=1" + times(10, "]") + "and" + times(10, "[") + "1=1" + times(10, "]"));
        E.ruleStands(IF + "[" + times(9, "not ") + "1=1 and " + times(9, "not ") + "1=1]");
        E.ruleFault(IF + "[" + times(9, "not ") + "1=1 and " + times(9, "not ") + "^not 1=1]", 2);
        E.ruleStands(IF + times(10, "not ") + "1=1;" + IF + times(10, "[") + "1=1" + times(10, "]"));
        E.ruleStands(IF + "not [" + times(8, "[") + "1=1" + times(8, "]") + "] and not not not 1=1");
    }

    private static void sixty() {
        E.sentence("at most 60 VALUES (of SUMS) and FACTS made of a SIGN, together.");
        E.ruleStands("ride 1" + times(59, "+1"));
        E.ruleFault("ride 1" + times(59, "*gap") + "+^1", 3);
        E.ruleFault("ride 1" + times(59, "+1") + "+^gap", 3);
        // One VALUE and nineteen FACTS of two are 58; two VALUES more are 60.
        E.ruleStands("ride 1+1+1 if 1=1" + times(18, "or 1=1"));
        E.ruleFault("ride 1+1+1 if 1=1" + times(18, "or 1=1") + "or ^1=1", 3);
        E.ruleFault("ride 1+1 if 1=1" + times(18, "or 1=1") + "or 1^=1", 3);
        E.ruleFault("ride 1 if 1=1" + times(18, "or 1=1") + "or 1=^1", 3);
        // Those of all CLAUSES together.
        E.ruleStands("ride 1" + times(29, "+1") + ";ride 1" + times(29, "+1"));
        E.ruleFault("ride 1" + times(29, "+1") + ";ride 1" + times(29, "+1") + ";ride ^1", 3);
        // Neither [ nor not nor and is one of them.
        E.ruleStands("ride 1+1+1 if[not 1=1]" + times(18, "and[not 1=1]"));
    }

    private static void faultPlaces() {
        E.sentence("FAULTS, the first along the text, 1 + 8 * its place and:");
        E.huntFault("fox ^1 0 10;x", 1);
        E.huntFault(FOX + ";rider 0 ^0;gate 9;" + FOX, 1);
        E.huntFault(FOX + ";^x" + times(45, ";gate 1"), 0);
        E.huntFault(FOX + ";gate ^2" + times(45, ";gate 1"), 1);
        E.ruleFault("ride ^123456 if " + times(11, "["), 1);
        E.ruleFault("ride 1 ^x" + times(12, ";ride 1"), 0);
        E.ruleFault(IF + times(10, "[") + "^[1" + times(61, "+1"), 2);
        E.ruleFault("ride 1" + times(59, "+1") + "+^1 if " + times(11, "not "), 3);
        E.due("place 0, kind 0", Due.hunt(new FoxReply(), "x"), -3);
        E.due("place 1, kind 4", Due.hunt(new FoxReply(), " rider 0 1"), -2 - 13);
        E.due("place 399, kind 1", Due.hunt(new FoxReply(), "fox" + times(396, " ") + "1"), -2 - (1 + 8 * 399 + 1));
        E.due("place 400, kind 0", Due.hunt(new FoxReply(), "fox" + times(397, " ")), -2 - (1 + 8 * 400));
    }

    private static void faultKinds() {
        E.sentence("0 a byte or WORD that can't stand there, or the end (behind the last byte)");
        E.huntFault("fox 2 1 0^!", 0);
        E.huntFault("fox 2 1 0^\u00ff", 0);
        E.huntFault("fox 2 ^gate", 0);
        E.huntFault("fox 2 1^", 0);
        E.huntFault("fox 2 1   ^", 0);
        E.huntFault(FOX + ";  ^", 0);
        E.ruleFault("ride 1 if 1 = 1 and   ^", 0);
        // A byte that nothing is told by, behind whatever it stands.
        E.huntFault("fox ^! 1 0", 0);
        E.huntFault("fox 2 ^! 0", 0);
        E.huntFault("fox 2 1 ^!", 0);
        E.huntFault(FOX + ";^!", 0);
        E.ruleFault("ride ^!", 0);
        E.ruleFault("ride 1 ^!", 0);
        E.ruleFault("ride 1+^!", 0);
        E.ruleFault(IF + "1=^!1", 0);
        E.ruleFault(IF + "[^!1=1]", 0);
        E.ruleFault(IF + "[1=1]^!", 0);
        E.ruleFault("ride 1;^!ride 1", 0);

        E.sentence("1 a NUMBER of more digits, or not as told");
        E.huntFault("fox ^000002 1 0", 1);
        E.huntStands("fox 00002 00001 00000", 0);
        E.huntFault("fox 2 ^10 0", 1);
        E.huntFault(FOX + ";gate ^000000", 1);
        E.ruleFault("ride gap * ^000000", 1);

        E.sentence("2 too deep (at the sign that opens, or the word not)");
        E.ruleFault(IF + times(10, "[ ") + " ^[ 1=1", 2);
        E.ruleFault(IF + times(10, "[ ") + " ^not 1=1", 2);
        E.ruleFault(IF + times(10, "not ") + " ^[1=1", 2);

        E.sentence("3 one VALUE or FACT too many (at its first byte; of a FACT at its SIGN)");
        E.ruleFault("ride 1" + times(59, "+1") + "+  ^12345", 3);
        E.ruleFault("ride 1" + times(59, "+1") + "+  ^behind", 3);
        E.ruleFault("ride 1 if 1" + times(58, "+1") + "  ^<=  1", 3);

        E.sentence("4 one CLAUSE too many, a second fox, another CLAUSE ahead of it, a seventh RIDER (at its first byte)");
        E.huntFault(FOX + times(39, ";gate 1") + ";  ^gate x", 4);
        E.ruleFault("ride 1" + times(11, ";ride 1") + ";  ^ride x", 4);
        E.huntFault(FOX + ";  ^fox x", 4);
        E.huntFault("  ^rider x", 4);
        E.huntFault("  ^gate x", 4);
        E.huntFault(FOX + times(6, ";rider 0 1") + ";  ^rider x", 4);
    }

    private static void ofOnePlace() {
        E.sentence("Of one place the least.");
        E.huntFault(FOX + times(39, ";gate 1") + ";^x", 0);
        E.ruleFault("ride 1" + times(11, ";ride 1") + ";^rides 1", 0);
        E.huntFault("^x", 0);
        E.huntFault(FOX + " ^123456", 0);
        E.ruleFault("ride 1 ^123456", 0);
        E.ruleFault("ride 1" + times(59, "+1") + "+^x", 0);
        E.ruleFault("ride 1" + times(59, "+1") + "+^123456", 1);
        E.ruleFault("ride 1" + times(59, "+1") + "+^[", 0);
        E.ruleFault("ride 1" + times(59, "+1") + "^<1", 0);
        E.ruleFault(IF + times(10, "[") + "1 + ^[", 0);
        E.ruleFault(IF + times(10, "not ") + "1 + ^not 1=1", 0);
    }
}
