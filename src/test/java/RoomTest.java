import java.lang.management.ManagementFactory;

/** All calls of one run live in one room: a bench makes its rows when it is made, and no call that answers makes anything more. */
public final class RoomTest {
    private static final com.sun.management.ThreadMXBean THREADS = (com.sun.management.ThreadMXBean) ManagementFactory.getThreadMXBean();
    private static int sum;

    public static void main(String[] args) {
        String most = "set a=a+b;set a=a+c;set a=a+d;set a=a+x;set a=a+y;set b=a+b;set b=a+c;set b=a+d;set b=a+x;back 9 if a<99";
        MendBench b = Checks.withBody(most);
        Checks.putSecond(b, most);
        Checks.putLaw(b, "not (r = 5 or r > x) or not (y < 99 and x = 3)");
        for (int i = 0; i < 12; i++) {
            b.run(i, 15 - i, 0);
        }
        b.box(15);
        calls(b);
        long before = THREADS.getCurrentThreadAllocatedBytes();
        calls(b);
        long made = THREADS.getCurrentThreadAllocatedBytes() - before;
        Checks.due("calls make nothing", true, () -> made < 4096);
        if (made >= 4096) {
            System.out.println(made + " bytes were made");
        }
        Checks.due("there were answers", true, () -> sum != 0);
        Checks.finish();
    }

    /** Some 200 calls that answer, the dearest ones among them. */
    private static void calls(MendBench b) {
        for (int i = 0; i < 4; i++) {
            sum += b.tries(400) + b.first(true) + b.heaps() + b.putIn(i) + b.input(true) + b.input(false) + b.otherwise(-1);
            sum += b.where(0) + b.where(1) + b.where(2) + b.check() + b.count(2) + b.count(4) + b.ends(3, 4, true) + b.fault();
            sum += b.done(i, true) + b.mend(i, 2) + b.line(i, 0, 1) + b.look(i, 6) + b.row(i, 1) + b.tear(i, 1) + b.teach(i);
            sum += b.feed(0x656e6420, 0x31202020, 0x20202020, 0x20202020, 0x20202020) + (b.end(0) ? 1 : 0);
            b.image();
            sum += b.back() ? 1 : 0;
        }
        b.feed(0x723d7220, 0x6f722872, 0x3e312061, 0x6e64206e, 0x6f742078);
        b.feed(0x3d792920, 0x20202020, 0x20202020, 0x20202020, 0x20202020);
        sum += b.law() ? 1 : 0;
        sum += b.bar();
        b.feed(0x656e6420, 0x312d7820, 0x20202020, 0x20202020, 0x20202020);
        sum += b.body(true);
        b.image();
        b.feed(0x656e6420, 0x312d7820, 0x20202020, 0x20202020, 0x20202020);
        sum += b.body(false) + b.tries(1);
        sum += b.back() ? 1 : 0;
    }
}
