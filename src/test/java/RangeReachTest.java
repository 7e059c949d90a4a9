import java.util.HashMap;
import java.util.Map;

/**
 * Goes every way that the range of a frame can take: it hangs on the four sizes of energy symbols
 * and the four pulse counts alone, the same for both sides. So it shows which of the range coder's
 * limits no run of calls reaches; the boundary tests' remarks point here.
 */
public final class RangeReachTest {
    private static final Check CHECK = new Check();
    private static final int[] SIZES = {32, 16, 8, 4, 2, 1};
    private static final long LIMIT = 16777216L;
    private static final int[] TOTALS = totals();

    private static Map<Long, Integer> ways = new HashMap<>();
    private static Map<Long, Integer> further = new HashMap<>();
    private static boolean lastBand = false;
    private static boolean onTheLimit = false;
    private static long nearestBelow = 0;
    private static int mostShiftsOfACode = 0;
    private static int mostShifts = 0;

    private RangeReachTest() {}

    public static void main(String[] args) {
        ways.put(4294967295L, 0);
        for (int band = 0; band < 4; band++) {
            lastBand = band == 3;
            further = new HashMap<>();
            for (Map.Entry<Long, Integer> way : ways.entrySet()) {
                goOn(way.getKey(), way.getValue());
            }
            ways = further;
        }
        CHECK.sentence("while range < 16777216: range = range*256, then shiftLow.");
        CHECK.due("a range of 16777216 is reached", onTheLimit, true);
        CHECK.due("the greatest range below 16777216", nearestBelow, 16776704);
        CHECK.due("the most shifts of one code", mostShiftsOfACode, 2);
        CHECK.sentence("emit(x): if length < 64, cell[length] = x and length grows by 1; otherwise x is dropped.");
        CHECK.due("the longest packet, and the most bytes read", mostShifts + 5, 20);
        CHECK.finish();
    }

    private static void goOn(long range, int shifts) {
        for (int size : SIZES) {
            long energy = range / 150 * size;
            int shiftsOfEnergy = see(energy);
            long ready = energy << (8 * shiftsOfEnergy);
            for (int k = 1; k <= 16; k++) {
                uniform(ready, shifts + shiftsOfEnergy, k);
            }
        }
    }

    private static int[] totals() {
        int[] totals = new int[17];
        for (int k = 1; k <= 16; k++) {
            totals[k] = Model.size(8, k);
        }
        return totals;
    }

    private static void uniform(long range, int shifts, int k) {
        int total = TOTALS[k];
        int apart = total <= 65536 ? 0 : 16 - Integer.numberOfLeadingZeros(total - 1);
        long high = range / (((total - 1) >> apart) + 1);
        int more = see(high);
        long left = high << (8 * more);
        if (apart > 0) {
            left >>= apart;
            int moreOfLow = see(left);
            left <<= 8 * moreOfLow;
            more += moreOfLow;
        }
        mostShifts = Math.max(mostShifts, shifts + more);
        if (!lastBand) {
            further.merge(left, shifts + more, Math::max);
        }
    }

    /** Notes a range before it is compared, and answers how often it is then shifted. */
    private static int see(long range) {
        onTheLimit |= range == LIMIT;
        if (range < LIMIT) {
            nearestBelow = Math.max(nearestBelow, range);
        }
        int shifts = 0;
        while (range << (8 * shifts) < LIMIT) {
            shifts++;
        }
        mostShiftsOfACode = Math.max(mostShiftsOfACode, shifts);
        return shifts;
    }
}
