import java.util.ArrayList;
import java.util.List;

/** Lists a pyramid's vectors one by one in the document's order. */
final class Pyramid {
    private Pyramid() {}

    static List<int[]> vectors(int n, int k) {
        List<int[]> all = new ArrayList<>();
        list(new int[n], 0, k, all);
        return all;
    }

    private static void list(int[] y, int i, int left, List<int[]> all) {
        if (i == y.length) {
            if (left == 0) {
                all.add(y.clone());
            }
            return;
        }
        for (int m = 0; m <= left; m++) {
            y[i] = m;
            list(y, i + 1, left - m, all);
            if (m > 0) {
                y[i] = -m;
                list(y, i + 1, left - m, all);
            }
        }
        y[i] = 0;
    }
}
