import java.lang.management.ManagementFactory;

/** No call makes an object, so a run needs no more room than its belts do when they are made. */
public final class RoomTest {
    private static final com.sun.management.ThreadMXBean THREADS =
        (com.sun.management.ThreadMXBean) ManagementFactory.getThreadMXBean();

    public static void main(String[] args) {
        long sum = 0;
        for (int i = 0; i < 3; i++) {
            sum += calls(new LuggageBelt());
        }
        LuggageBelt x = new LuggageBelt();
        long before = THREADS.getCurrentThreadAllocatedBytes();
        sum += calls(x);
        long made = THREADS.getCurrentThreadAllocatedBytes() - before;
        Due.holds("calls make nothing, but " + made + " bytes (" + sum + ")", made < 2000);
        before = THREADS.getCurrentThreadAllocatedBytes();
        sum += new LuggageBelt().count(0);
        made = THREADS.getCurrentThreadAllocatedBytes() - before;
        Due.holds("a belt is small, but " + made + " bytes", made < 16000);
        Due.end();
    }

    private static long calls(LuggageBelt x) {
        long sum = Due.tell(x, "b9;h4,2;h8,2;c4,2;d1,1;s5,3;l0,1;");
        sum += x.row(0, 0, 12) + x.row(1, 0, 40) + x.set(0, 3, 4) + x.copy(0, 1, 1, 2, 4) + x.drop(1);
        for (int round = 0; round < 3; round++) {
            sum += x.ticks(7) + x.move(3, round) + x.paint(2, round) + x.back(0) + x.back(1) + x.turn();
            sum += x.image(0) + x.undo() + x.stand(4) + x.place(1) + x.traveller(0, 5) + x.bag(1, 1);
            sum += x.ahead(0, 60) + x.with(1, 60, 1) + x.all(60, 1) + x.when(2) + x.empty() + x.best(3, 60, 1);
            sum += x.order(40, -1) + x.order(30, 3) + x.marks(40, 1) + x.sets(2, 0) + x.share(1, 99) + x.byTurns(4, 20);
            sum += x.who(1, 0, 0, 0, 0, 12) + x.who(1, 1, 0, 0, 0, 12) + x.colours(1, 0, 0, 12);
            sum += x.sleep(0, 60, 3, 0) + x.drawn(60, 77, 0) + x.kind(1) + x.as(1, 3) + x.ask(4, 0) + x.trace(1);
            sum += x.count(0) + x.status() + x.restore(0);
        }
        return sum;
    }
}
