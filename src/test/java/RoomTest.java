import com.sun.management.ThreadMXBean;
import java.lang.management.ManagementFactory;
import java.util.Random;

/** All calls of a run live in one room: an object is made small, and its calls make next to nothing. */
public final class RoomTest {
    private static int wrong = 0;

    public static void main(String[] args) {
        ThreadMXBean threads = (ThreadMXBean) ManagementFactory.getThreadMXBean();
        fill(new HandTongue());
        calls(fill(new HandTongue()));
        long before = threads.getCurrentThreadAllocatedBytes();
        HandTongue h = new HandTongue();
        long made = threads.getCurrentThreadAllocatedBytes() - before;
        fill(h);
        before = threads.getCurrentThreadAllocatedBytes();
        calls(h);
        long called = threads.getCurrentThreadAllocatedBytes() - before;
        most("bytes of a new object", made, 400000);
        most("bytes of 500 dear calls", called, 4000);
        System.out.println("RoomTest: a new object has " + made + " bytes, 500 dear calls make " + called + " bytes");
        if (wrong != 0) {
            System.exit(1);
        }
    }

    private static void most(String what, long got, long most) {
        if (got > most) {
            wrong++;
            System.out.println(what + ": " + got + ", at most " + most + " are due");
        }
    }

    private static void feed(HandTongue h, String text) {
        for (int from = 0; from < text.length(); from += 20) {
            int[] five = new int[5];
            for (int i = 0; i < 20 && from + i < text.length(); i++) {
                five[i / 4] |= text.charAt(from + i) << 24 - 8 * (i % 4);
            }
            h.feed(five[0], five[1], five[2], five[3], five[4]);
        }
        h.end(text.length());
    }

    private static HandTongue fill(HandTongue h) {
        Random random = new Random(3);
        for (int sign = 0; sign < 10; sign++) {
            StringBuilder text = new StringBuilder();
            for (int state = 0; state < 4; state++) {
                text.append(state > 0 ? "/" : "");
                for (int finger = 0; finger < 5; finger++) {
                    text.append(random.nextInt(3));
                }
                text.append("p").append(random.nextInt(20)).append("t").append(random.nextInt(8));
            }
            feed(h, text.toString());
            h.sign();
        }
        feed(h, "if end place>begin place do set begin shape end shape,drop end;if not(begin turn<5 and end states>2)"
                + "do set begin place end place,set end place begin place;if end turn>begin turn do drop begin");
        h.rules();
        for (int i = 0; i < 40; i++) {
            h.sight(i % 2, i / 2, random.nextInt(243), random.nextInt(20), random.nextInt(8), random.nextInt(10), 0);
        }
        return h;
    }

    private static void calls(HandTongue h) {
        for (int i = 0; i < 50; i++) {
            h.read(0, 19, 0);
            h.rivals(0, 19, 0, 20);
            h.cost(0, 1, 2, 0, 19, 0);
            h.parting();
            h.nearest(0);
            h.image(i % 2);
            h.back(i % 2);
            h.share(0, 0, 0, 0);
            h.surface(0, 1, 2, 0, 0);
            h.feed(0x646f2064, 0x726f7020, 0x656e6420, 0x20202020, 0x20202020);
            h.rules();
        }
    }
}
