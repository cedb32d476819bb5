import java.util.ArrayList;
import java.util.List;
import java.util.Random;

/** Many plaits and texts against the Reference. */
public final class ReferenceTest {
    private static final Due due = new Due();

    public static void main(String[] args) {
        Random random = new Random(20261119);
        for (int r = 1; r <= 6; r++) {
            for (int c = 1; c <= 6; c++) {
                comparePlait(r, c, 0, 0, 0, random);
            }
        }
        for (int i = 0; i < 260; i++) {
            int r = 1 + random.nextInt(6);
            int c = random.nextInt(3) == 0 ? r : 1 + random.nextInt(6);
            int h = random.nextInt(i % 2 == 0 ? 4 : 11);
            int v = random.nextInt(i % 2 == 0 ? 4 : 11 - h);
            comparePlait(r, c, random.nextLong(), h, v, random);
        }
        for (int i = 0; i < 300; i++) {
            compareOneStrand(random);
        }
        for (int i = 0; i < 200; i++) {
            compareSame(random);
        }
        everyColouringOfSmallOnes();
        for (int i = 0; i < 6000; i++) {
            compareText(random);
        }
        due.end();
    }

    private static PlaitAndBreak copy(Reference want) {
        PlaitAndBreak x = new PlaitAndBreak();
        x.make(want.r, want.c, 0, 0, 0);
        for (int point : Reference.innerPoints(want.r, want.c)) {
            x.set(point, want.kind(point));
        }
        return x;
    }

    private static void comparePlait(int r, int c, long seed, int h, int v, Random random) {
        Reference want = Reference.made(r, c, seed, h, v);
        PlaitAndBreak x = new PlaitAndBreak();
        String call = "make(" + r + ", " + c + ", " + seed + ", " + h + ", " + v + ")";
        due.is(call, x.make(r, c, seed, h, v), Reference.innerPoints(r, c).size());
        for (int point : Reference.innerPoints(r, c)) {
            due.is(call + " point(" + point + ")", x.point(point), want.kind(point));
        }
        comparePoints(call, copy(want), want);
        Reference turned = want;
        for (int point : want.crossings()) {
            if (random.nextInt(3) == 0) {
                turned = turned.with(point, 3);
            }
        }
        String more = call + " some turned over, ";
        compareNumbers(more, copy(turned), turned);
        compareCells(more, copy(turned), turned);
        compareAlong(more, copy(turned), turned);
        compareSteps(more, copy(turned), turned, random);
        comparePairs(more, copy(turned), turned);
        comparePoints(more, copy(turned), turned);
        compareBreaks(more, copy(turned), turned, random);
    }

    private static void compareNumbers(String call, PlaitAndBreak x, Reference want) {
        int[] kinds = new int[4];
        for (int point : Reference.innerPoints(want.r, want.c)) {
            kinds[want.kind(point)]++;
        }
        int crossings = kinds[0] + kinds[3];
        int parts = want.parts();
        int[] about = {want.r, want.c, want.cells(), kinds[0] + kinds[1] + kinds[2] + kinds[3], crossings, kinds[1], kinds[2],
            kinds[3], want.loops.size(), parts, crossings + 1 + parts, want.arcs(), 0};
        for (int what = 0; what < about.length; what++) {
            due.is(call + "about(" + what + ")", x.about(what), about[what]);
        }
        due.is(call + "writhe()", x.writhe(), 1000 + want.signs(want.crossings()));
        for (int p = 3; p <= 7; p += 2) {
            due.is(call + "colours(" + p + ")", x.colours(p), want.colours(p));
        }
        for (int t = 0; t < 8; t++) {
            due.is(call + "same(" + t + ")", x.same(t), want.same(t) ? 1 : 0);
        }
        compareOneByCounting(call, x, want, parts);
    }

    // A break joins two loops at most: one strand takes a crossing for each loop but one, or cannot be.
    private static void compareOneByCounting(String call, PlaitAndBreak x, Reference want, int parts) {
        int size = parts == 1 ? want.loops.size() - 1 : Reference.NONE;
        due.is(call + "one()", x.one(), size);
        Reference joined = want;
        int before = -1;
        for (int i = 0; i < size; i++) {
            int point = x.oneAt(i);
            due.isTrue(call + "oneAt(" + i + ") is behind the one before", point > before && joined.isCrossing(point));
            // None less would have joined two loops at this stage.
            for (int less : joined.crossings()) {
                if (less > before && less < point) {
                    due.is(call + less + " joins nothing", joined.which(less, true), joined.which(less, false));
                }
            }
            joined = joined.with(point, 1);
            before = point;
        }
        due.is(call + "oneAt() behind the last", x.oneAt(Math.max(size, 0)), Reference.NONE);
        due.isTrue(call + "one loop", size < 0 || joined.loops.size() == 1);
    }

    private static void compareCells(String call, PlaitAndBreak x, Reference want) {
        for (int row = 0; row <= 12; row++) {
            for (int column = 0; column <= 12; column++) {
                int cell = 100 * row + column;
                due.is(call + "loop(" + cell + ")", x.loop(cell), want.owner(cell));
            }
        }
    }

    private static void compareAlong(String call, PlaitAndBreak x, Reference want) {
        for (int loop = 0; loop < want.loops.size(); loop++) {
            List<Integer> cells = want.loops.get(loop);
            int length = cells.size();
            int passes = want.passes(loop).size();
            int[] along = {cells.get(0), length, length - passes, passes, want.shared(loop, loop).size(), want.uneven(loop)};
            for (int what = 0; what < along.length; what++) {
                due.is(call + "along(" + loop + ", " + what + ")", x.along(loop, what), along[what]);
            }
        }
    }

    private static void compareSteps(String call, PlaitAndBreak x, Reference want, Random random) {
        for (int loop = 0; loop < want.loops.size(); loop++) {
            List<Integer> cells = want.loops.get(loop);
            int length = cells.size();
            for (int k = 0; k < length; k++) {
                int later = k + length * random.nextInt((9999 - k) / length + 1);
                due.is(call + "step(" + loop + ", " + later + ")", x.step(loop, later), cells.get(k));
                due.is(call + "end(" + loop + ", " + later + ")", x.end(loop, later), want.end(loop, k));
            }
        }
    }

    private static void comparePairs(String call, PlaitAndBreak x, Reference want) {
        int loops = Math.min(want.loops.size(), 12);
        for (int a = 0; a < loops; a++) {
            for (int b = 0; b < loops; b++) {
                due.is(call + "between(" + a + ", " + b + ")", x.between(a, b), want.shared(a, b).size());
                int linked = a == b ? -3 : 1000 + want.signs(want.shared(a, b)) / 2;
                due.is(call + "linked(" + a + ", " + b + ")", x.linked(a, b), linked);
            }
        }
    }

    private static void comparePoints(String call, PlaitAndBreak x, Reference want) {
        for (int point : Reference.innerPoints(want.r, want.c)) {
            boolean crossing = want.isCrossing(point);
            due.is(call + "point(" + point + ")", x.point(point), want.kind(point));
            due.is(call + "which over " + point, x.which(point, true), crossing ? want.which(point, true) : -3);
            due.is(call + "which under " + point, x.which(point, false), crossing ? want.which(point, false) : -3);
            due.is(call + "sign(" + point + ")", x.sign(point), crossing ? want.sign(point) : -3);
        }
    }

    private static void compareBreaks(String call, PlaitAndBreak x, Reference want, Random random) {
        for (int point : Reference.innerPoints(want.r, want.c)) {
            for (int what = 0; what <= 2; what++) {
                if (random.nextInt(4) == 0) {
                    due.is(call + "by(" + point + ", " + what + ")", x.by(point, what), want.with(point, what).loops.size());
                }
            }
        }
        due.is(call + "most(1)", x.most(1), want.most(1));
        due.is(call + "most(2)", x.most(2), want.most(2));
    }

    private static void compareOneStrand(Random random) {
        int[][] sizes = {{1, 2}, {2, 1}, {2, 2}, {1, 5}, {5, 1}, {2, 3}, {3, 2}, {3, 3}, {2, 4}};
        int[] size = sizes[random.nextInt(sizes.length)];
        int h = random.nextInt(7);
        Reference want = Reference.made(size[0], size[1], random.nextLong(), h, random.nextInt(8 - h));
        PlaitAndBreak x = copy(want);
        List<Integer> points = want.one();
        String call = "one strand of " + size[0] + " by " + size[1] + ": ";
        due.is(call + "one()", x.one(), points == null ? Reference.NONE : points.size());
        for (int i = 0; i <= 12; i++) {
            int point = points != null && i < points.size() ? points.get(i) : Reference.NONE;
            due.is(call + "oneAt(" + i + ")", x.oneAt(i), point);
        }
    }

    // Plaits that are the same when turned come by chance too seldom.
    private static void compareSame(Random random) {
        int r = 1 + random.nextInt(6);
        int c = random.nextInt(3) == 0 ? 1 + random.nextInt(6) : r;
        Reference want = Reference.made(r, c, random.nextLong(), 0, 0);
        List<Integer> points = new ArrayList<>(Reference.innerPoints(r, c));
        if (points.isEmpty()) {
            return;
        }
        for (int i = 0; i < 2; i++) {
            int point = points.get(random.nextInt(points.size()));
            int y = point / 100;
            int x = point % 100;
            int kind = 1 + random.nextInt(2);
            int[] others = {point, 100 * y + 2 * c - x, 100 * (2 * r - y) + x, 100 * (2 * r - y) + 2 * c - x};
            want = want.with(point, kind).with(others[random.nextInt(4)], kind);
            if (r == c) {
                int[] turned = {100 * x + y, 100 * (2 * c - x) + 2 * r - y, 100 * x + 2 * r - y, 100 * (2 * c - x) + y};
                want = random.nextBoolean() ? want.with(turned[random.nextInt(4)], 3 - kind) : want;
            }
        }
        PlaitAndBreak got = copy(want);
        for (int t = 0; t < 8; t++) {
            due.is("same(" + t + ") of " + r + " by " + c, got.same(t), want.same(t) ? 1 : 0);
        }
    }

    // The number of all ways, counted one by one, is p to the power of what is told.
    private static void everyColouringOfSmallOnes() {
        String[] texts = {"N12", "N22", "N22O12", "N22O12O32", "N22H12H32", "N22H12H32O21", "N23", "N23H12", "N13O12", "N32O21"};
        for (String text : texts) {
            PlaitAndBreak x = Due.drawn(text);
            for (int p = 3; p <= 7; p += 2) {
                long ways = Colourings.count(text, p);
                long told = 1;
                for (int i = x.colours(p); i > 0; i--) {
                    told *= p;
                }
                due.is("ways round " + p + " of " + text, told, ways);
            }
        }
    }

    private static void compareText(Random random) {
        StringBuilder text = new StringBuilder();
        int r = 1 + random.nextInt(random.nextBoolean() ? 6 : 2);
        int c = 1 + random.nextInt(random.nextBoolean() ? 6 : 2);
        text.append('N').append(r).append(c);
        List<Integer> points = new ArrayList<>(Reference.innerPoints(r, c));
        java.util.Collections.shuffle(points, random);
        int parts = Math.min(23, random.nextInt(points.size() + 2));
        for (int i = 0; i < parts; i++) {
            boolean twice = i >= points.size() || random.nextInt(20) == 0;
            int point = points.isEmpty() ? 102 : points.get(twice ? random.nextInt(points.size()) : i);
            text.append("HVO".charAt(random.nextInt(3)));
            text.append("0123456789ab".charAt(point / 100)).append("0123456789ab".charAt(point % 100));
        }
        if (random.nextInt(3) == 0) {
            text.setLength(random.nextInt(text.length() + 1));
        }
        if (random.nextInt(2) == 0 && text.length() > 0) {
            String signs = "NHVO0123456789abcABn\0\u00ff";
            text.setCharAt(random.nextInt(text.length()), signs.charAt(random.nextInt(signs.length())));
        }
        String whole = text.toString();
        int want = Reference.fault(whole);
        PlaitAndBreak x = new PlaitAndBreak();
        Due.type(x, whole);
        due.is("fault of " + whole, x.fault(), want);
        int inner = want == Reference.NONE ? Reference.innerPoints(whole.charAt(1) - '0', whole.charAt(2) - '0').size() : -3;
        due.is("plait of " + whole, x.plait(), inner);
        for (int i = 3; inner > 0 && i < whole.length(); i += 3) {
            int point = 100 * Character.digit(whole.charAt(i + 1), 12) + Character.digit(whole.charAt(i + 2), 12);
            due.is("point of " + whole, x.point(point), 1 + "HVO".indexOf(whole.charAt(i)));
        }
        due.is("bytes of " + whole, x.about(12), whole.length());
    }
}
