import com.sun.management.ThreadMXBean;
import java.lang.management.ManagementFactory;
import java.util.function.ToIntFunction;

/** An object and 400 calls more of one kind stay in the room that there is for one run: some 7.3 million fields and elements. */
public final class RoomTest extends Checks {
    private static final long MOST_BYTES = 7_300_000L * Integer.BYTES;
    /** So many are left of 512 when the SHEETS have been told. */
    private static final int CALLS = 400;
    private static final ThreadMXBean THREADS = (ThreadMXBean) ManagementFactory.getThreadMXBean();

    private static CrumpledSheet large() {
        CrumpledSheet x = new CrumpledSheet();
        text(x, LAW, "breaks 1000 if long>16 and not [short>14 or area<5];at 300*long/200+long");
        text(x, DOING, "press 5 times 40");
        text(x, RULE, "see kind=0;miss place>100 and [round>3 or used<9]");
        text(x, STRIP, "9999M1V".repeat(10) + "9999");
        for (int s = 0; s < 6; s++) {
            x.sheet(200, 200, 0, s);
            for (int place = 14; place < 200; place += 14) x.fold(s, 1, place);
            x.done(0, s);
        }
        return x;
    }

    private static void small(String call, ToIntFunction<CrumpledSheet> asked) {
        long id = Thread.currentThread().getId();
        long ahead = THREADS.getThreadAllocatedBytes(id);
        CrumpledSheet x = large();
        for (int i = 0; i < CALLS; i++) asked.applyAsInt(x);
        long made = THREADS.getThreadAllocatedBytes(id) - ahead;
        System.out.println(call + ": " + made + " bytes");
        due(call + " makes more than " + MOST_BYTES + " bytes", made > MOST_BYTES, false);
    }

    public static void main(String[] args) {
        small("count", x -> x.count(0));
        small("after", x -> x.after(0, 0, 2));
        small("runs", x -> x.runs(0, 0, 1, 10, 0));
        small("until", x -> x.until(0, 1, 1));
        small("which", x -> x.which(0));
        small("right", x -> x.right(0, 0, 0));
        small("corners", x -> x.corners(0, 0));
        small("heart", x -> x.heart(0, 1));
        small("likest", x -> x.likest(0));
        small("sizes", x -> x.sizes(0, 2));
        small("strip", x -> x.strip(0, 5));
        small("image", x -> x.image(0));
        small("back", x -> x.image(1) + x.back(1));
        small("press", x -> x.press(0, 1));
        small("text", x -> text(x, LAW, "breaks 1000 if long=2?"));
        finish();
    }
}
