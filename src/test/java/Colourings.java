import java.util.ArrayList;
import java.util.List;

/** Counts the ways to colour a small plait by trying all numbers of all arcs, from what the object tells step by step. */
final class Colourings {
    private Colourings() { }

    /** As the object tells it; each part is asked of a new object, as one is good for 512 calls. */
    static long count(String text, int p) {
        PlaitAndBreak x = Due.drawn(text);
        int[] arcOfCell = new int[1200];
        List<int[]> passes = new ArrayList<>(); // point, arc before, arc behind
        int arcs = 0;
        for (int loop = 0; loop < x.about(8); loop++) {
            arcs = goAlong(Due.drawn(text), loop, arcs, arcOfCell, passes);
        }
        if (arcs != x.about(11)) {
            return -1;
        }
        long ways = 1;
        for (int i = 0; i < arcs; i++) {
            ways *= p;
        }
        long count = 0;
        int[] numbers = new int[arcs];
        for (long way = 0; way < ways; way++) {
            long left = way;
            for (int i = 0; i < arcs; i++) {
                numbers[i] = (int) (left % p);
                left /= p;
            }
            count += fits(numbers, passes, p) ? 1 : 0;
        }
        return count;
    }

    private static boolean fits(int[] numbers, List<int[]> passes, int p) {
        for (int[] pass : passes) {
            if (Math.floorMod(2 * numbers[pass[0]] - numbers[pass[1]] - numbers[pass[2]], p) != 0) {
                return false;
            }
        }
        return true;
    }

    // Starts behind the loop's first time under, so that each arc is gone along in one piece.
    private static int goAlong(PlaitAndBreak x, int loop, int arcs, int[] arcOfCell, List<int[]> passes) {
        int length = x.along(loop, 1);
        int start = 0;
        int under = 0;
        for (int k = length - 1; k >= 0; k--) {
            if (isUnder(x, loop, k)) {
                start = k + 1;
                under++;
            }
        }
        int arc = arcs;
        int last = arcs + Math.max(under, 1) - 1;
        for (int k = start; k < start + length; k++) {
            arcOfCell[x.step(loop, k)] = arc;
            if (isUnder(x, loop, k)) {
                int next = arc == last ? arcs : arc + 1;
                passes.add(new int[] {-x.end(loop, k), arc, next});
                arc = next;
            }
        }
        if (loop == x.about(8) - 1) {
            for (int[] pass : passes) {
                pass[0] = arcOfCell[cellOver(x, -pass[0])];
            }
        }
        return last + 1;
    }

    private static boolean isUnder(PlaitAndBreak x, int loop, int k) {
        int point = x.end(loop, k);
        int kind = x.point(point);
        if (kind != 0 && kind != 3) {
            return false;
        }
        int cell = x.step(loop, k);
        int over = cellOver(x, point);
        return cell != over && cell != over + (over == point - 101 ? 101 : 99);
    }

    // The upper one of the two cells of the strand that is over.
    private static int cellOver(PlaitAndBreak x, int point) {
        boolean falling = point / 100 % 2 == 1 != (x.point(point) == 3);
        return falling ? point - 101 : point - 100;
    }
}
