import com.sun.management.ThreadMXBean;
import java.lang.management.ManagementFactory;

/** All calls of one run live in one room: what a new object and each call take of it is small. */
public final class RoomTest {
    private static final ThreadMXBean BEAN = (ThreadMXBean) ManagementFactory.getThreadMXBean();
    private static int wrong = 0;
    private static long sum = 0;

    private interface Call {
        long on(LivedAgain x, int turn);
    }

    public static void main(String[] args) {
        LivedAgain x = new LivedAgain();
        check("new", 8000, (y, i) -> new LivedAgain().count(0));
        check("feed", 8, (y, i) -> y.feed('v'));
        read(x, "v;f5,10,3;g4,20,9;s6,7,5;");
        check("village", 300, (y, i) -> read(y, "v;f5,10,3;g4,20,9;s6,7,5;"));
        check("row", 8, (y, i) -> y.row(i % 8, i % 3, 40));
        check("copy", 8, (y, i) -> y.copy(0, 0, 0, 1, 20));
        check("live, again, stand", 8, (y, i) -> y.live(1) + y.again(i % 3) + y.live(2) + y.stand());
        check("will, undo", 8, (y, i) -> y.will(0, 1) + y.undo());
        check("lived", 8, (y, i) -> y.lived(0, 1, true));
        check("mean", 8, (y, i) -> y.mean(0, 0, true));
        check("best", 8, (y, i) -> y.best(0, 0));
        check("rests", 8, (y, i) -> y.rests(-1));
        check("worth, knows", 8, (y, i) -> y.worth(0, 3, true) + y.knows(0, 3, 1, true));
        check("often, gone", 8, (y, i) -> y.often(0, 0, 3, 0) + y.gone(0, 20, 7, -1));
        check("image, restore", 8, (y, i) -> y.image(i % 2) + y.restore(i % 2));
        check("ask", 8, (y, i) -> y.ask(1, 0) + y.as(1, 2) + y.trace(3) + y.count(0));
        System.out.println(wrong == 0 ? "room: small" : "room: " + wrong + " calls take too much");
        if (wrong != 0) {
            System.exit(1);
        }
    }

    private static int read(LivedAgain x, String text) {
        for (int i = 0; i < text.length(); i++) {
            x.feed(text.charAt(i));
        }
        return x.village();
    }

    /** The first turns load classes, so only the later ones count. */
    private static void check(String name, long mostBytes, Call call) {
        LivedAgain x = new LivedAgain();
        read(x, "v;f5,10,3;g4,20,9;s6,7,5;");
        x.row(0, 0, 40);
        for (int i = 0; i < 50; i++) {
            sum += call.on(x, i);
        }
        long ahead = BEAN.getThreadAllocatedBytes(Thread.currentThread().getId());
        for (int i = 0; i < 200; i++) {
            sum += call.on(x, i);
        }
        long each = (BEAN.getThreadAllocatedBytes(Thread.currentThread().getId()) - ahead) / 200;
        if (each > mostBytes) {
            wrong++;
            System.out.println("room: " + name + " takes " + each + " bytes a turn, " + mostBytes + " at most");
        }
    }
}
