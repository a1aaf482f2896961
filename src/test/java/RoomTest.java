import com.sun.management.ThreadMXBean;
import java.lang.management.ManagementFactory;

/** Calls make nothing but cubes, ways and exceptions, so that a run of 512 calls needs little room. */
public final class RoomTest {
    private static final int MOST_BYTES = 100_000;

    private static long made() {
        return ((ThreadMXBean) ManagementFactory.getThreadMXBean()).getCurrentThreadAllocatedBytes();
    }

    /** A run with as many cubes and ways as there may be, and the dearest calls. */
    private static long run() {
        Bilinearium x = new Bilinearium();
        long told = 0;
        for (int cube = 0; cube < 16; cube++) {
            told += cube == 0 ? x.matrices(2, 2, 2) : cube == 1 ? x.polynomials(2, 2) : x.group(2);
            told += x.way(cube);
        }
        for (int product = 0; product < 40; product++) {
            told += x.multiply(0, product % 15 + 1, product * 7 % 15 + 1, product * 4 % 15 + 1);
        }
        for (int time = 0; time < 44; time++) {
            told += x.ofWay(0, 1) + x.ofWay(0, 2) + x.ofWay(0, 3) + x.ofWay(0, 4);
            told += x.least(1) + x.leastAnew(2) + x.bound(0) + x.levels(0, 6, true);
            told += x.result(0, 15, 15, 3) + x.walk(0, time, 200);
        }
        return told;
    }

    public static void main(String[] args) {
        Due.is("the same calls have the same answers", run(), run());
        long before = made();
        run();
        long bytes = made() - before;
        Due.is("a run of 512 calls made " + bytes + " bytes, which is few", 1, bytes < MOST_BYTES ? 1 : 0);
        Due.end();
    }
}
