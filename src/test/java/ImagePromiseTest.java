/** Promises 29 to 36: NOTES, RULED, LOOK, seed, MORNINGS, count, IMAGES. */
public final class ImagePromiseTest {
    private static final Due DUE = new Due();
    private static final String THREE = "fox 10 3 2;rider 5 4;rider 8 2;rider 6 3;gate 2;gate 7";

    public static void main(String[] args) {
        notes();
        ruled();
        look();
        seed();
        mornings();
        count();
        images();
        imagesOfOtherHunts();
        DUE.close();
    }

    private static void due(String call, long got, long want) {
        DUE.due(call, got, want);
    }

    private static void notes() {
        FoxReply fox = Due.hunted(THREE);
        due("note(0, 0, 0)", fox.note(0, 0, 0), 1);
        due("note(60, 2, 9999)", fox.note(60, 2, 9999), 2);
        due("note(61, 0, 0)", fox.note(61, 0, 0), -2);
        due("note(-2, 0, 0)", fox.note(-2, 0, 0), -2);
        due("note(0, 3, 0)", fox.note(0, 3, 0), -2);
        due("note(0, -1, 0)", fox.note(0, -1, 0), -2);
        due("note(0, 0, -1)", fox.note(0, 0, -1), -2);
        due("note(0, 0, 10000)", fox.note(0, 0, 10000), -2);
        due("count(11)", fox.count(11), 2);
        for (int i = 3; i <= 10; i++) {
            due("note " + i, fox.note(0, 0, 0), i);
        }
        due("note 11", fox.note(0, 0, 0), -2);
        due("count(11)", fox.count(11), 10);
        due("no notes", fox.note(-1, 77, -77), 0);
        due("count(11)", fox.count(11), 0);
        due("count(12): no act", fox.count(12), 0);
    }

    /** By none, and RULES 0 to 2, riders are at 96 and 86, 92 and 82, 92 and 86, 96 and 82 in STEP 2. */
    private static FoxReply ruledHunt() {
        FoxReply fox = Due.hunted("fox 10 3 0;rider 10 3;rider 20 3");
        Due.rule(fox, "ride 1");
        Due.rule(fox, "ride 1 if rider = 0;ride 3");
        Due.rule(fox, "ride 1 if rider = 1;ride 3");
        return fox;
    }

    private static void ruled() {
        FoxReply fox = ruledHunt();
        due("without notes", fox.ruled(0), 4);
        due("without notes: none first", fox.ruled(1), -1);
        due("ruled(2)", fox.ruled(2), -3);
        due("ruled(-1)", fox.ruled(-1), -3);
        fox.note(2, 0, 96);
        due("96", fox.ruled(0), 2);
        due("96", fox.ruled(1), -1);
        fox.note(2, 1, 82);
        due("96 and 82", fox.ruled(0), 1);
        due("96 and 82", fox.ruled(1), 2);
        fox.note(0, 0, 90);
        due("as it begins", fox.ruled(0), 1);
        // From the begin on, as the text told it, whatever happened by hand.
        fox.force(0);
        fox.step();
        fox.spur(0, 9);
        fox.hold(1, 9);
        fox.gate(2);
        due("whatever happened", fox.ruled(0), 1);
        due("whatever happened", fox.ruled(1), 2);
        fox.note(1, 0, 5);
        due("never", fox.ruled(0), 0);
        due("never", fox.ruled(1), -2);
        FoxReply none = Due.hunted("fox 10 3 0");
        due("no riders", none.ruled(0), 1);
        due("no riders", none.ruled(1), -1);
    }

    private static void look() {
        FoxReply fox = ruledHunt();
        due("all alike at 0: rider", fox.look(0, 0), 0);
        due("all alike at 0: how many", fox.look(0, 1), 4);
        due("two and two: the least", fox.look(2, 0), 0);
        due("two and two", fox.look(2, 1), 2);
        fox.note(2, 0, 92);
        due("rider 1 parts them", fox.look(2, 0), 1);
        due("rider 1 parts them", fox.look(2, 1), 1);
        due("not at 0", fox.look(0, 0), 0);
        due("not at 0", fox.look(0, 1), 2);
        due("look(60, 0)", fox.look(60, 0), 1);
        due("look(61, 0)", fox.look(61, 0), -1);
        due("look(-1, 0)", fox.look(-1, 0), -1);
        due("look(0, 2)", fox.look(0, 2), -1);
        due("look(0, -1)", fox.look(0, -1), -1);
        // A note of a later STEP than is looked at counts all the same.
        fox.note(9, 1, 107);
        due("one is left", fox.look(1, 1), 1);
        due("one is left", fox.ruled(1), 1);
        fox.note(1, 0, 5);
        due("no rule is so", fox.look(2, 0), -2);
        due("no rule is so", fox.look(2, 1), -2);
        due("no riders", Due.hunted("fox 10 3 0").look(0, 0), -2);
    }

    private static void seed() {
        FoxReply fox = new FoxReply();
        due("seed(5)", fox.seed(5), 0);
        due("seed(-1)", fox.seed(-1), -1);
        due("seed(min)", fox.seed(Integer.MIN_VALUE), -1);
        due("count(13)", fox.count(13), 5);
        due("seed(max)", fox.seed(Integer.MAX_VALUE), 5);
        due("seed(0)", fox.seed(0), Integer.MAX_VALUE);
    }

    private static void mornings() {
        FoxReply fox = Due.hunted(THREE);
        // In ten steps the fox comes 25 fields far and five times to a gate.
        due("mornings(1, 10, 0, 0)", fox.mornings(1, 10, 0, 0), 5);
        due("mornings(1, 10, 0, 1)", fox.mornings(1, 10, 0, 1), 125);
        due("mornings(1, 1, 0, 0)", fox.mornings(1, 1, 0, 0), 1);
        due("mornings(2, 10, 0, 0)", fox.mornings(2, 10, 0, 0), 10);
        due("mornings(10, 10, 100, 1)", fox.mornings(10, 10, 100, 1), 1250);
        due("mornings(0, 1, 0, 0)", fox.mornings(0, 1, 0, 0), -1);
        due("mornings(11, 1, 0, 0)", fox.mornings(11, 1, 0, 0), -1);
        due("mornings(1, 0, 0, 0)", fox.mornings(1, 0, 0, 0), -1);
        due("mornings(1, 61, 0, 0)", fox.mornings(1, 61, 0, 0), -1);
        due("mornings(1, 1, -1, 0)", fox.mornings(1, 1, -1, 0), -1);
        due("mornings(1, 1, 101, 0)", fox.mornings(1, 1, 101, 0), -1);
        due("mornings(1, 1, 0, 2)", fox.mornings(1, 1, 0, 2), -1);
        due("mornings(1, 1, 0, -1)", fox.mornings(1, 1, 0, -1), -1);
        fox.seed(4321);
        fox.mornings(10, 60, 50, 0);
        due("x as it was", fox.count(13), 4321);
        due("nothing stays", fox.rider(0, 0), 95);
        FoxReply none = Due.hunted("fox 10 3 2;gate 2");
        due("no riders", none.mornings(10, 60, 100, 0), 0);
        due("all to ground for a while", Due.hunted("fox 2 1 3;rider 9 1;gate 0;gate 1").mornings(2, 7, 100, 0), 6);
    }

    private static void count() {
        FoxReply fox = Due.hunted(THREE);
        Due.rule(fox, "ride 2");
        fox.step();
        fox.force(0);
        fox.seed(6);
        fox.note(1, 1, 1);
        fox.gate(0);
        fox.feed(0, 0, 0, 0, 0);
        int[] want = {10, 3, 2, 3, 3, 1, 0, 1, 102, 2, 1, 1, 2, 6, 20};
        for (int what = 0; what < want.length; what++) {
            due("count(" + what + ")", fox.count(what), want[what]);
        }
        due("count(15)", fox.count(15), -1);
        due("count(-1)", fox.count(-1), -1);
    }

    private static void images() {
        FoxReply fox = Due.hunted(THREE);
        Due.rule(fox, "ride 0");
        fox.step();
        fox.note(1, 1, 94);
        fox.seed(8);
        due("image(4)", fox.image(4), -1);
        due("image(-1)", fox.image(-1), -1);
        due("image(3)", fox.image(3), 1);
        due("an image is no act", fox.count(12), 1);
        fox.force(0);
        fox.step();
        fox.spur(0, 9);
        fox.gate(5);
        fox.note(1, 1, 90);
        fox.seed(9);
        due("image(0)", fox.image(0), 2);
        Due.rule(fox, "ride 5");
        fox.feed(0, 0, 0, 0, 0);
        due("back(1): never made", fox.back(1), -1);
        due("back(4)", fox.back(4), -1);
        due("back(-1)", fox.back(-1), -1);
        due("nothing happened", fox.count(12), 4);
        due("back(3)", fox.back(3), 1);
        int[] want = {10, 3, 2, 3, 2, 2, -1, 1, 102, 2, 1, 1, 0, 8, 20};
        for (int what = 0; what < want.length; what++) {
            due("back: count(" + what + ")", fox.count(what), want[what]);
        }
        due("rider(0, 0)", fox.rider(0, 0), 99);
        due("rider(0, 1)", fox.rider(0, 1), 4);
        due("undo()", fox.undo(), -1);
        due("back(0)", fox.back(0), 2);
        due("rule in force", fox.count(6), 0);
        due("x", fox.count(13), 9);
        due("gates", fox.count(4), 3);
        due("notes", fox.count(11), 2);
        fox.step();
        due("an image stays as it was", fox.back(0), 2);
        due("count(7)", fox.count(7), 2);
    }

    private static void imagesOfOtherHunts() {
        FoxReply fox = new FoxReply();
        due("image without a hunt", fox.image(0), 0);
        Due.hunt(fox, "fox 10 3 0;rider 10 3");
        fox.image(1);
        Due.hunt(fox, "fox 7 1 1;rider 1 1;rider 2 2;gate 6");
        due("back(1)", fox.back(1), 0);
        due("count(0)", fox.count(0), 10);
        due("count(3)", fox.count(3), 1);
        fox.note(1, 0, 93);
        due("its begin is back too", fox.ruled(0), 1);
        due("back(0)", fox.back(0), 0);
        due("no hunt again", fox.step(), -2);
        due("no hunt again", fox.count(0), 0);
        due("no hunt again", fox.count(11), 0);
    }
}
