import com.sun.management.ThreadMXBean;
import java.lang.management.ManagementFactory;

/** A new object makes all its rows, and its calls make nothing: so a run of calls takes little room. */
public final class RoomTest {
    private static final int MOST_BYTES = 16_000;
    private static final String LINK = "x6 2 7 1;x8 3 9 4;x16 11 1 12;x2 14 3 13;x4 15 5 16;x10 6 11 5;x12 7 13 8;"
            + "x14 10 15 9;o;o;o;o;";

    private RoomTest() {
    }

    public static void main(String[] args) {
        // The first rounds load the classes, which takes room once.
        for (int round = 0; round < 20; round++) {
            callEverything(new KnotDiagram());
        }
        ThreadMXBean threads = (ThreadMXBean) ManagementFactory.getThreadMXBean();
        threads.getCurrentThreadAllocatedBytes();
        long start = threads.getCurrentThreadAllocatedBytes();
        KnotDiagram d = new KnotDiagram();
        long made = threads.getCurrentThreadAllocatedBytes();
        int sum = callEverything(d);
        long called = threads.getCurrentThreadAllocatedBytes();
        Check.holds("the calls answered nothing", sum != 0);
        Check.holds("a new object takes " + (made - start) + " bytes", made - start <= MOST_BYTES);
        // Objects of a call would come to far more than this in so many calls.
        Check.holds("the calls took " + (called - made) + " bytes", called - made <= 1_000);
        Check.finish();
    }

    private static int callEverything(KnotDiagram d) {
        int sum = d.append(111) + d.load() + d.clearText();
        for (int i = 0; i < LINK.length(); i++) {
            sum += d.append(LINK.charAt(i));
        }
        sum += d.load() + d.save(0) + d.save(1);
        for (int number = -1; number <= 8; number++) {
            sum += d.arcAt(number, 1) + d.isKink(number) + d.bigonPartner(number) + d.crossingSign(number);
            sum += d.switchCrossing(number) + d.componentCount() + d.partCount() + d.faceCount() + d.genus();
            sum += d.isAlternating() + d.writhe() + d.stateLoops(number) + d.coefficient(number);
            sum += d.normalizedCoefficient(number) + d.lowestExponent() + d.highestExponent() + d.determinant();
            sum += d.colouringDimension(3) + d.colouringDimension(11) + d.mirror() + d.undoDepth();
            sum += d.removeBigon(0, number) + d.removeKink(number);
        }
        return sum + d.undo() + d.undo() + d.restore(0) + d.undo() + d.crossingCount() + d.circleCount();
    }
}
