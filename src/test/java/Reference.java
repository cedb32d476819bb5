import java.math.BigInteger;
import java.util.ArrayList;
import java.util.HashSet;
import java.util.List;
import java.util.Set;
import java.util.TreeSet;

/**
 * The document once more, by other ways than the program's: ends of strands tied in pairs, one unknown colour a cell,
 * one strand by trying all choices, turned plaits drawn anew, texts by all that may come next.
 */
final class Reference {
    static final int NONE = -9;

    final int r;
    final int c;
    final int[][] kinds;
    final List<List<Integer>> loops = new ArrayList<>(); // cells, told as 100 row + column
    private final List<List<Boolean>> downwards = new ArrayList<>();
    private final int[][] owner;
    private final int[] partner;

    Reference(int r, int c, int[][] kinds) {
        this.r = r;
        this.c = c;
        this.kinds = kinds;
        owner = new int[2 * r][2 * c];
        partner = new int[2 * cells()];
        tieEnds();
        walk();
    }

    static Reference made(int r, int c, long seed, int h, int v) {
        int[][] kinds = new int[2 * r + 1][2 * c + 1];
        BigInteger all = BigInteger.ONE.shiftLeft(64);
        BigInteger x = BigInteger.valueOf(seed).mod(all);
        for (int point : innerPoints(r, c)) {
            x = x.multiply(new BigInteger("6364136223846793005")).add(new BigInteger("1442695040888963407")).mod(all);
            int left = x.shiftRight(33).mod(BigInteger.TEN).intValue();
            kinds[point / 100][point % 100] = left < h ? 1 : left < h + v ? 2 : 0;
        }
        return new Reference(r, c, kinds);
    }

    Reference with(int point, int kind) {
        int[][] copy = new int[kinds.length][];
        for (int y = 0; y < copy.length; y++) {
            copy[y] = kinds[y].clone();
        }
        copy[point / 100][point % 100] = kind;
        return new Reference(r, c, copy);
    }

    static TreeSet<Integer> innerPoints(int r, int c) {
        TreeSet<Integer> points = new TreeSet<>();
        for (int y = 1; y < 2 * r; y++) {
            for (int x = 1; x < 2 * c; x++) {
                if ((y + x) % 2 == 1) {
                    points.add(100 * y + x);
                }
            }
        }
        return points;
    }

    TreeSet<Integer> crossings() {
        TreeSet<Integer> points = innerPoints(r, c);
        points.removeIf(p -> kind(p) == 1 || kind(p) == 2);
        return points;
    }

    int kind(int point) {
        return kinds[point / 100][point % 100];
    }

    int cells() {
        return 4 * r * c;
    }

    private int end(int row, int column, boolean bottom) {
        return 2 * (row * 2 * c + column) + (bottom ? 1 : 0);
    }

    private void tie(int a, int b) {
        partner[a] = b;
        partner[b] = a;
    }

    private void tieEnds() {
        for (int y = 0; y <= 2 * r; y++) {
            for (int x = 0; x <= 2 * c; x++) {
                if ((y + x) % 2 == 1) {
                    tieAt(y, x);
                }
            }
        }
    }

    private void tieAt(int y, int x) {
        if (y == 0) {
            tie(end(0, x - 1, false), end(0, x, false));
        } else if (y == 2 * r) {
            tie(end(y - 1, x - 1, true), end(y - 1, x, true));
        } else if (x == 0) {
            tie(end(y - 1, 0, true), end(y, 0, false));
        } else if (x == 2 * c) {
            tie(end(y - 1, x - 1, true), end(y, x - 1, false));
        } else {
            int upperLeft = end(y - 1, x - 1, true);
            int upperRight = end(y - 1, x, true);
            int lowerLeft = end(y, x - 1, false);
            int lowerRight = end(y, x, false);
            int kind = kinds[y][x];
            tie(upperLeft, kind == 1 ? upperRight : kind == 2 ? lowerLeft : lowerRight);
            tie(kind == 1 ? lowerLeft : upperRight, kind == 0 || kind == 3 ? lowerLeft : lowerRight);
        }
    }

    private void walk() {
        for (int[] row : owner) {
            java.util.Arrays.fill(row, NONE);
        }
        for (int cell = 0; cell < cells(); cell++) {
            if (owner[cell / (2 * c)][cell % (2 * c)] == NONE) {
                walkFrom(cell);
            }
        }
    }

    private void walkFrom(int start) {
        List<Integer> told = new ArrayList<>();
        List<Boolean> down = new ArrayList<>();
        int in = 2 * start;
        do {
            int cell = in / 2;
            owner[cell / (2 * c)][cell % (2 * c)] = loops.size();
            told.add(100 * (cell / (2 * c)) + cell % (2 * c));
            down.add(in % 2 == 0);
            in = partner[in ^ 1];
        } while (in != 2 * start);
        loops.add(told);
        downwards.add(down);
    }

    int owner(int cell) {
        boolean there = cell >= 0 && cell / 100 < 2 * r && cell % 100 < 2 * c;
        return there ? owner[cell / 100][cell % 100] : -1;
    }

    /** The point at which the loop is behind the k-th of its cells. */
    int end(int loop, int k) {
        int cell = loops.get(loop).get(k);
        int row = cell / 100;
        int column = cell % 100;
        boolean fallsRight = (row + column) % 2 == 1;
        boolean down = downwards.get(loop).get(k);
        int y = down ? row + 1 : row;
        int x = down == fallsRight ? column + 1 : column;
        return 100 * y + x;
    }

    boolean isCrossing(int point) {
        return crossings().contains(point);
    }

    /** Is the strand of this cell over at this crossing? */
    boolean isOver(int cell, int point) {
        boolean fallsRight = (cell / 100 + cell % 100) % 2 == 1;
        boolean fallingOver = point / 100 % 2 == 1;
        if (kind(point) == 3) {
            fallingOver = !fallingOver;
        }
        return fallsRight == fallingOver;
    }

    /** +1 over, -1 under, for each crossing passed, in order. */
    List<Integer> passes(int loop) {
        List<Integer> passes = new ArrayList<>();
        for (int k = 0; k < loops.get(loop).size(); k++) {
            int point = end(loop, k);
            if (isCrossing(point)) {
                passes.add(isOver(loops.get(loop).get(k), point) ? 1 : -1);
            }
        }
        return passes;
    }

    int uneven(int loop) {
        List<Integer> passes = passes(loop);
        int count = 0;
        for (int i = 0; i < passes.size(); i++) {
            if (passes.get(i).equals(passes.get((i + 1) % passes.size()))) {
                count++;
            }
        }
        return count;
    }

    int arcs() {
        int arcs = 0;
        for (int loop = 0; loop < loops.size(); loop++) {
            int under = 0;
            for (int pass : passes(loop)) {
                under += pass < 0 ? 1 : 0;
            }
            arcs += under == 0 ? 1 : under;
        }
        return arcs;
    }

    /** The loop that is over (under) there: of the cell up and left of it, or of that up and right. */
    int which(int point, boolean over) {
        int upperLeft = point - 101;
        int upperRight = point - 100;
        return owner(isOver(upperLeft, point) == over ? upperLeft : upperRight);
    }

    private int[] direction(int point, boolean over) {
        for (int loop = 0; loop < loops.size(); loop++) {
            for (int k = 0; k < loops.get(loop).size(); k++) {
                int cell = loops.get(loop).get(k);
                if (end(loop, k) == point && isOver(cell, point) == over) {
                    int dx = point % 100 == cell % 100 ? -1 : 1;
                    int dy = point / 100 == cell / 100 ? -1 : 1;
                    return new int[] {dx, dy};
                }
            }
        }
        throw new IllegalStateException("nothing ends at " + point);
    }

    int sign(int point) {
        int[] over = direction(point, true);
        int[] under = direction(point, false);
        return over[0] * under[1] - over[1] * under[0] > 0 ? 1 : -1;
    }

    TreeSet<Integer> shared(int loop, int other) {
        TreeSet<Integer> points = crossings();
        points.removeIf(p -> !(which(p, true) == loop && which(p, false) == other
            || which(p, true) == other && which(p, false) == loop));
        return points;
    }

    int signs(TreeSet<Integer> points) {
        int sum = 0;
        for (int point : points) {
            sum += sign(point);
        }
        return sum;
    }

    int parts() {
        boolean[] seen = new boolean[loops.size()];
        int parts = 0;
        for (int loop = 0; loop < seen.length; loop++) {
            if (!seen[loop]) {
                parts++;
                spread(loop, seen);
            }
        }
        return parts;
    }

    private void spread(int loop, boolean[] seen) {
        seen[loop] = true;
        for (int point : crossings()) {
            int a = which(point, true);
            int b = which(point, false);
            if (a == loop && !seen[b]) {
                spread(b, seen);
            }
            if (b == loop && !seen[a]) {
                spread(a, seen);
            }
        }
    }

    /** d: one unknown a cell; where a strand bounces or is over, the next cell has the same colour. */
    int colours(int p) {
        List<int[]> rules = new ArrayList<>();
        for (int loop = 0; loop < loops.size(); loop++) {
            List<Integer> told = loops.get(loop);
            for (int k = 0; k < told.size(); k++) {
                int[] rule = new int[cells()];
                int here = place(told.get(k));
                int next = place(told.get((k + 1) % told.size()));
                int point = end(loop, k);
                if (isCrossing(point) && !isOver(told.get(k), point)) {
                    int over = isOver(point - 101, point) ? point - 101 : point - 100;
                    rule[place(over)] += 2;
                    rule[here] -= 1;
                    rule[next] -= 1;
                } else {
                    rule[here] += 1;
                    rule[next] -= 1;
                }
                rules.add(rule);
            }
        }
        return cells() - rank(rules, p);
    }

    private int place(int cell) {
        return cell / 100 * 2 * c + cell % 100;
    }

    private static int rank(List<int[]> rules, int p) {
        List<int[]> kept = new ArrayList<>();
        List<Integer> leads = new ArrayList<>();
        for (int[] rule : rules) {
            for (int i = 0; i < kept.size(); i++) {
                int times = Math.floorMod(rule[leads.get(i)], p);
                for (int j = 0; times != 0 && j < rule.length; j++) {
                    rule[j] = Math.floorMod(rule[j] - times * kept.get(i)[j], p);
                }
            }
            for (int j = 0; j < rule.length; j++) {
                if (Math.floorMod(rule[j], p) != 0) {
                    int inverse = BigInteger.valueOf(rule[j]).modInverse(BigInteger.valueOf(p)).intValue();
                    for (int i = 0; i < rule.length; i++) {
                        rule[i] = Math.floorMod(rule[i] * inverse, p);
                    }
                    kept.add(rule);
                    leads.add(j);
                    break;
                }
            }
        }
        return kept.size();
    }

    int most(int kind) {
        int best = NONE;
        int most = -1;
        for (int point : crossings().descendingSet()) {
            int count = with(point, kind).loops.size();
            if (count >= most) {
                most = count;
                best = point;
            }
        }
        return best;
    }

    /** The crossings of ONE STRAND, by trying all sets, the small ones first; null: it can not be so. */
    List<Integer> one() {
        List<Integer> points = new ArrayList<>(crossings());
        for (int size = 0; size <= points.size(); size++) {
            List<Integer> found = choose(this, points, 0, size);
            if (found != null) {
                return found;
            }
        }
        return null;
    }

    private static List<Integer> choose(Reference plait, List<Integer> points, int from, int size) {
        if (size == 0) {
            return plait.loops.size() == 1 ? new ArrayList<>() : null;
        }
        for (int i = from; i < points.size(); i++) {
            for (int kind = 1; kind <= 2; kind++) {
                List<Integer> rest = choose(plait.with(points.get(i), kind), points, i + 1, size - 1);
                if (rest != null) {
                    rest.add(0, points.get(i));
                    return rest;
                }
            }
        }
        return null;
    }

    boolean same(int t) {
        char[][] picture = picture();
        char[][] turned = picture;
        if (t >= 4) {
            turned = mirrored(turned);
        }
        for (int i = 0; i < t % 4; i++) {
            turned = turnedRight(turned);
        }
        return java.util.Arrays.deepEquals(picture, turned);
    }

    private char[][] picture() {
        char[][] picture = new char[2 * r + 1][2 * c + 1];
        for (int y = 0; y <= 2 * r; y++) {
            for (int x = 0; x <= 2 * c; x++) {
                boolean inner = innerPoints(r, c).contains(100 * y + x);
                picture[y][x] = !inner ? ' ' : kinds[y][x] == 1 ? '-' : kinds[y][x] == 2 ? '|' : 'x';
            }
        }
        return picture;
    }

    private static char[][] mirrored(char[][] from) {
        char[][] to = new char[from.length][];
        for (int y = 0; y < from.length; y++) {
            to[y] = new StringBuilder(new String(from[y])).reverse().toString().toCharArray();
        }
        return to;
    }

    private static char[][] turnedRight(char[][] from) {
        int height = from.length;
        int width = from[0].length;
        char[][] to = new char[width][height];
        for (int y = 0; y < height; y++) {
            for (int x = 0; x < width; x++) {
                char sign = from[y][x];
                // The upper row comes to stand at the right.
                to[x][height - 1 - y] = sign == '-' ? '|' : sign == '|' ? '-' : sign;
            }
        }
        return to;
    }

    /** FAULT of a text, by trying whether each beginning may still become a plait. */
    static int fault(String text) {
        for (int i = 0; i < text.length(); i++) {
            if (!canBecome(text.substring(0, i + 1))) {
                return i;
            }
        }
        return isPlait(text) ? NONE : text.length();
    }

    private static boolean isPlait(String text) {
        return text.length() >= 3 && text.length() % 3 == 0;
    }

    private static boolean canBecome(String text) {
        String signs = "0123456789ab";
        for (int r = 1; r <= 6; r++) {
            for (int c = 1; c <= 6; c++) {
                String head = "N" + r + c;
                if (text.length() <= 3 && head.startsWith(text)) {
                    return true;
                }
                if (text.length() > 3 && text.startsWith(head)) {
                    Set<String> left = new HashSet<>();
                    for (int point : innerPoints(r, c)) {
                        left.add("" + signs.charAt(point / 100) + signs.charAt(point % 100));
                    }
                    return partsCan(text.substring(3), left);
                }
            }
        }
        return false;
    }

    private static boolean partsCan(String parts, Set<String> left) {
        if (parts.length() >= 3) {
            boolean fits = "HVO".indexOf(parts.charAt(0)) >= 0 && left.remove(parts.substring(1, 3));
            return fits && partsCan(parts.substring(3), left);
        }
        if (parts.isEmpty()) {
            return true;
        }
        for (String point : left) {
            for (String letter : new String[] {"H", "V", "O"}) {
                if ((letter + point).startsWith(parts)) {
                    return true;
                }
            }
        }
        return false;
    }
}
