import com.sun.management.ThreadMXBean;
import java.lang.management.ManagementFactory;

/** All calls of a run live in one room: an object is small, and what is asked makes nothing. */
public final class RoomTest {
    private static final Due DUE = new Due();
    private static final ThreadMXBean THREADS = (ThreadMXBean) ManagementFactory.getThreadMXBean();
    private static final String RULE = "ride gap / 2 if [behind > 0 or level = 1] and not gate < foxpace;"
            + "ride pace - out % 3 if was + law * step >= rider; ride 4";

    private static FoxReply fox;
    private static int kept;

    public static void main(String[] args) {
        made();
        long before = bytes();
        fox = new FoxReply();
        small("a new object", bytes() - before, 20_000);
        Due.hunt(fox, "fox 60 9 3;rider 9 9;rider 30 8;rider 5 7;rider 99 6;rider 60 5;rider 1 4;gate 3;gate 44");
        for (int i = 0; i < 6; i++) {
            Due.rule(fox, RULE);
        }
        fox.force(0);
        askAll();
        before = bytes();
        for (int i = 0; i < 10; i++) {
            askAll();
        }
        small("ten times all that can be asked", bytes() - before, 1_000);
        before = bytes();
        for (int i = 0; i < 100; i++) {
            actAll();
        }
        small("a hundred times all acts", bytes() - before, 1_000);
        DUE.close();
    }

    /** What loading the classes and asking for the bytes make themselves is made ahead of all. */
    private static void made() {
        for (int i = 0; i < 3; i++) {
            kept += new FoxReply().count(3) + (bytes() > 0 ? 1 : 0);
        }
    }

    private static long bytes() {
        return THREADS.getThreadAllocatedBytes(Thread.currentThread().getId());
    }

    private static void small(String what, long bytes, long most) {
        System.out.println(what + ": " + bytes + " bytes");
        DUE.due(what + " makes little", bytes <= most ? 1 : 0, 1);
    }

    private static void askAll() {
        kept += fox.last() + fox.ahead(0, 100, 1) + fox.it(5) + fox.leastPace(3, 60) + fox.row(0, 4, 2)
                + fox.shut(60, 0) + fox.help(60, 1) + fox.allIt() + fox.meet(0, 1) + fox.bunches(1)
                + fox.pence(9999, 1) + fox.rests(0, 1, 20, 1) + fox.open(0, 60, 0) + fox.close(100, 2)
                + fox.note(60, 0, 95) + fox.ruled(1) + fox.look(60, 0) + fox.mornings(10, 60, 50, 0)
                + fox.count(9) + fox.note(-1, 0, 0);
    }

    private static void actAll() {
        kept += fox.step() + fox.spur(0, 1) + fox.spur(0, 2) + fox.hold(0, 1) + fox.dig(3) + fox.gate(7)
                + fox.undo() + fox.image(2) + fox.back(2) + fox.end(0) + fox.feed(1, 2, 3, 4, 5)
                + fox.hunt() + fox.rule() + fox.seed(3) + fox.force(1);
    }
}
