import java.util.List;
import java.util.Random;

/** Terms part 2 and promises 10 to 19 at their boundaries: at each, just inside and just outside. */
public final class LoopEdgesTest {
    private static final int UNKNOWN = -1, OUTSIDE = -2, STATE = -3;
    private static final String RINGS = "N22V12V32H21H23";
    private static final Due due = new Due();

    public static void main(String[] args) {
        rimBounces();
        innerPoints();
        numbersOfLoops();
        downwardsAtFirst();
        shortestAndLongest();
        bendsAndPasses();
        stepsRoundAndRound();
        loopsThatAreNone();
        overAndUnder();
        overOfItself();
        placesThatDoNotAlternate();
        placesRoundAndRound();
        betweens();
        signs();
        writhes();
        links();
        arcs();
        primes();
        colourings();
        partsAndFaces();
        due.end();
    }

    private static void path(String text, int loop, int[] cells, int[] ends) {
        PlaitAndBreak x = Due.drawn(text);
        due.is("11: length in " + text, x.along(loop, 1), cells.length);
        for (int k = 0; k < cells.length; k++) {
            due.is("12: step(" + loop + ", " + k + ") of " + text, x.step(loop, k), cells[k]);
            due.is("13: end(" + loop + ", " + k + ") of " + text, x.end(loop, k), ends[k]);
            due.is("10: loop(" + cells[k] + ") of " + text, x.loop(cells[k]), loop);
        }
    }

    // "at the upper and lower rim it goes on across, up instead of down; at the left and right rim it goes on up or down".
    private static void rimBounces() {
        path("N11", 0, new int[] {0, 100, 101, 1}, new int[] {100, 201, 102, 1});
        path("N12", 0, new int[] {0, 100, 101, 2, 3, 103, 102, 1}, new int[] {100, 201, 102, 3, 104, 203, 102, 1});
        path("N21", 0, new int[] {0, 100, 201, 301, 300, 200, 101, 1}, new int[] {100, 201, 302, 401, 300, 201, 102, 1});
    }

    // "CROSSINGS (both STRANDS go straight on), or BREAKS: LEVEL ones, UPRIGHT ones".
    private static void innerPoints() {
        path("N12O12", 0, new int[] {0, 100, 101, 2, 3, 103, 102, 1}, new int[] {100, 201, 102, 3, 104, 203, 102, 1});
        path("N12H12", 0, new int[] {0, 100, 101, 102, 103, 3, 2, 1}, new int[] {100, 201, 102, 203, 104, 3, 102, 1});
        path("N12V12", 0, new int[] {0, 100, 101, 1}, new int[] {100, 201, 102, 1});
        path("N12V12", 1, new int[] {2, 102, 103, 3}, new int[] {102, 203, 104, 3});
        path("N21H21", 0, new int[] {0, 100, 101, 1}, new int[] {100, 201, 102, 1});
        path("N21H21", 1, new int[] {200, 300, 301, 201}, new int[] {300, 401, 302, 201});
        path("N21V21", 0, new int[] {0, 100, 200, 300, 301, 201, 101, 1}, new int[] {100, 201, 300, 401, 302, 201, 102, 1});
    }

    // "numbered by the least CELL of each (ROW by ROW)".
    private static void numbersOfLoops() {
        PlaitAndBreak x = Due.drawn(RINGS);
        int[] least = {0, 2, 200, 202};
        for (int loop = 0; loop < 4; loop++) {
            due.is("11: least cell of " + loop, x.along(loop, 0), least[loop]);
            due.is("12: least cell of " + loop, x.step(loop, 0), least[loop]);
            due.is("10: of the least cell", x.loop(least[loop]), loop);
            due.is("10: of its greatest cell", x.loop(least[loop] + 101), loop);
        }
        // Column by column 200 would come before 2, as a text 1000 before 200.
        PlaitAndBreak tall = new PlaitAndBreak();
        tall.make(6, 6, 0, 0, 0);
        for (int point : Reference.innerPoints(6, 6)) {
            tall.set(point, point / 100 % 2 == 1 ? 2 : 1);
        }
        for (int loop = 0; loop < 36; loop++) {
            due.is("11: least cell of ring " + loop, tall.along(loop, 0), 200 * (loop / 6) + 2 * (loop % 6));
        }
    }

    // "A LOOP is gone along from its least CELL on, downwards there".
    private static void downwardsAtFirst() {
        Random random = new Random(10);
        for (int i = 0; i < 60; i++) {
            PlaitAndBreak x = new PlaitAndBreak();
            x.make(1 + random.nextInt(6), 1 + random.nextInt(6), random.nextLong(), 3, 3);
            for (int loop = x.about(8) - 1; loop >= 0; loop--) {
                int cell = x.along(loop, 0);
                int end = x.end(loop, 0);
                due.is("13: the first end is lower than the cell begins", end / 100, cell / 100 + 1);
                boolean rises = (cell / 100 + cell % 100) % 2 == 0;
                due.is("13: the first end is its lower one", end % 100, cell % 100 + (rises ? 0 : 1));
            }
        }
    }

    // LENGTH: 4 at least, all CELLS at most.
    private static void shortestAndLongest() {
        due.is("11: shortest", new PlaitAndBreak().along(0, 1), 4);
        due.is("11: shortest of some", Due.drawn(RINGS).along(3, 1), 4);
        PlaitAndBreak x = longest();
        due.is("11: one loop", x.about(8), 1);
        due.is("11: longest", x.along(0, 1), 144);
        boolean[] seen = new boolean[1200];
        for (int k = 0; k < 144; k++) {
            int cell = x.step(0, k);
            due.isTrue("12: each cell once, " + cell, !seen[cell]);
            seen[cell] = true;
        }
        due.is("12: behind 144", x.step(0, 144), 0);
        due.is("12: behind 143", x.step(0, 143), 1);
        due.is("12: behind 9999", x.step(0, 9999), x.step(0, 9999 % 144));
        due.is("13: behind 9999", x.end(0, 9999), x.end(0, 9999 % 144));
    }

    private static PlaitAndBreak longest() {
        PlaitAndBreak x = new PlaitAndBreak();
        x.make(6, 6, 0, 0, 0);
        int[] points = new int[5];
        for (int i = 0; i < 5; i++) {
            points[i] = x.oneAt(i);
        }
        for (int point : points) {
            x.set(point, 1);
        }
        return x;
    }

    private static void alongs(String text, int loop, int[] want) {
        PlaitAndBreak x = Due.drawn(text);
        for (int what = 0; what < want.length; what++) {
            due.is("11: along(" + loop + ", " + what + ") of " + text, x.along(loop, what), want[what]);
        }
        due.is("11: along(.., -1) of " + text, x.along(loop, -1), OUTSIDE);
        due.is("11: along(.., 6) of " + text, x.along(loop, 6), OUTSIDE);
    }

    // "BENDS: how often it bounces (rim, BREAKS)"; "(twice, where it crosses itself)".
    private static void bendsAndPasses() {
        alongs("N11", 0, new int[] {0, 4, 4, 0, 0, 0});
        alongs("N12", 0, new int[] {0, 8, 6, 2, 1, 0});
        alongs("N12H12", 0, new int[] {0, 8, 8, 0, 0, 0});
        alongs("N12V12", 1, new int[] {2, 4, 4, 0, 0, 0});
        alongs("N13", 0, new int[] {0, 12, 8, 4, 2, 0});
        alongs("N22", 1, new int[] {2, 8, 4, 4, 0, 0});
        alongs(RINGS, 3, new int[] {202, 4, 4, 0, 0, 0});
        PlaitAndBreak x = longest();
        due.is("11: passes of the longest", x.along(0, 3), 2 * x.about(4));
        due.is("11: crosses itself everywhere", x.along(0, 4), x.about(4));
        due.is("11: bends of the longest", x.along(0, 2), 144 - 2 * 55);
    }

    // "k 0 to 9999, round and round".
    private static void stepsRoundAndRound() {
        PlaitAndBreak ring = new PlaitAndBreak();
        int[] cells = {0, 100, 101, 1};
        int[] ends = {100, 201, 102, 1};
        int[] ks = {0, 1, 2, 3, 4, 5, 7, 8, 4095, 4096, 9996, 9998, 9999};
        for (int k : ks) {
            due.is("12: step(0, " + k + ")", ring.step(0, k), cells[k % 4]);
            due.is("13: end(0, " + k + ")", ring.end(0, k), ends[k % 4]);
        }
        int[] not = {-1, 10000, 10001, -4, -9999, Integer.MIN_VALUE, Integer.MAX_VALUE};
        for (int k : not) {
            due.is("12: step(0, " + k + ")", ring.step(0, k), OUTSIDE);
            due.is("13: end(0, " + k + ")", ring.end(0, k), OUTSIDE);
        }
        // The last LOOP of some, too, goes round in itself.
        PlaitAndBreak rings = Due.drawn(RINGS);
        due.is("12: the last ring", rings.step(3, 3), 203);
        due.is("12: the last ring", rings.step(3, 4), 202);
        due.is("12: the last ring", rings.step(3, 9999), 203);
        due.is("13: the last ring", rings.end(3, 9999), 203);
        due.is("12: one before the last", rings.step(2, 4), 200);
    }

    // LOOPS 0 to one less than there are.
    private static void loopsThatAreNone() {
        int[][] sizes = {{1, 1, 1}, {2, 2, 2}, {3, 3, 3}, {4, 4, 4}, {4, 6, 2}, {6, 6, 6}, {5, 6, 1}};
        for (int[] size : sizes) {
            PlaitAndBreak x = new PlaitAndBreak();
            x.make(size[0], size[1], 0, 0, 0);
            int loops = size[2];
            due.is("9: loops of " + size[0] + " by " + size[1], x.about(8), loops);
            for (int n = -2; n < loops + 3; n++) {
                boolean there = n >= 0 && n < loops;
                due.isTrue("11: along " + n, x.along(n, 0) == UNKNOWN != there);
                due.isTrue("12: step " + n, x.step(n, 0) == UNKNOWN != there);
                due.isTrue("13: end " + n, x.end(n, 0) == UNKNOWN != there);
                due.isTrue("14: between " + n, x.between(n, 0) == UNKNOWN != there);
                due.isTrue("14: between " + n, x.between(loops - 1, n) == UNKNOWN != there);
                due.isTrue("18: linked " + n, x.linked(n, loops - 1) == UNKNOWN != there);
                due.isTrue("18: linked " + n, x.linked(0, n) == UNKNOWN != there);
            }
        }
        // LOOPS of a greater PLAIT that was there before are none.
        PlaitAndBreak x = new PlaitAndBreak();
        x.make(6, 6, 0, 0, 0);
        x.make(2, 2, 0, 0, 0);
        due.is("11: not any more", x.along(2, 0), UNKNOWN);
        due.is("14: not any more", x.between(0, 5), UNKNOWN);
    }

    // "OVER at a CROSSING is the STRAND that falls to the right, if y is odd, else that which rises; TURNED OVER the other".
    private static void overAndUnder() {
        int[][] want = {{102, 0, 1}, {201, 1, 0}, {203, 1, 0}, {302, 0, 1}};
        for (int[] row : want) {
            PlaitAndBreak x = Due.drawn("N22");
            due.is("15: over at " + row[0], x.which(row[0], true), row[1]);
            due.is("15: under at " + row[0], x.which(row[0], false), row[2]);
            x.set(row[0], 3);
            due.is("15: turned over at " + row[0], x.which(row[0], true), row[2]);
            due.is("15: turned over at " + row[0], x.which(row[0], false), row[1]);
            x.set(row[0], 1);
            due.is("15: LEVEL at " + row[0], x.which(row[0], true), STATE);
            due.is("16: LEVEL at " + row[0], x.sign(row[0]), STATE);
            x.set(row[0], 2);
            due.is("15: UPRIGHT at " + row[0], x.which(row[0], false), STATE);
            due.is("16: UPRIGHT at " + row[0], x.sign(row[0]), STATE);
            x.set(row[0], 0);
            due.is("15: a CROSSING again", x.which(row[0], true), row[1]);
        }
        PlaitAndBreak x = Due.drawn("N22");
        int[] rim = {1, 3, 100, 300, 104, 304, 401, 403, 202, 101, 0, 404, 500, 105};
        for (int point : rim) {
            due.is("15: which(" + point + ")", x.which(point, true), UNKNOWN);
            due.is("15: which(" + point + ")", x.which(point, false), UNKNOWN);
            due.is("16: sign(" + point + ")", x.sign(point), UNKNOWN);
        }
    }

    private static void overOfItself() {
        PlaitAndBreak x = Due.drawn("N12");
        due.is("15: it crosses itself", x.which(102, true), 0);
        due.is("15: it crosses itself", x.which(102, false), 0);
        // Over falling, from 102 to 1: (-1, -1); under rising, from 101 to 2: (1, -1): 1 and 1.
        due.is("16: it crosses itself", x.sign(102), 1);
        x.set(102, 3);
        due.is("16: it crosses itself, turned over", x.sign(102), -1);
    }

    // No CROSSING: no PLACE; TURNED OVER one by one: 0, 2, 4 and back.
    private static void placesThatDoNotAlternate() {
        due.is("11: no CROSSING", new PlaitAndBreak().along(0, 5), 0);
        PlaitAndBreak x = Due.drawn("N22");
        due.is("11: as drawn", x.along(0, 5), 0);
        // 0 passes 201, 302, 203, 102: under, over, under, over.
        x.set(201, 3);
        due.is("11: all but one over", x.along(0, 5), 2);
        x.set(203, 3);
        due.is("11: all over", x.along(0, 5), 4);
        due.is("11: all under", x.along(1, 5), 4);
        x.set(302, 3);
        due.is("11: one under", x.along(0, 5), 2);
        x.set(102, 3);
        due.is("11: all turned over", x.along(0, 5), 0);
        due.is("11: a BEND between counts for nothing", Due.drawn("N13").along(0, 5), 0);
    }

    // "(round and round)": the last CROSSING and the first one are one behind the other, too.
    private static void placesRoundAndRound() {
        int[] passed = {201, 302, 203, 102};
        for (int i = 0; i < 4; i++) {
            for (int j = 0; j < 4; j++) {
                PlaitAndBreak x = Due.drawn("N22");
                x.set(passed[i], 3);
                x.set(passed[j], 3);
                // One: two PLACES. Two side by side, round and round: between them it alternates. Two across: four.
                int apart = Math.abs(i - j);
                int want = apart == 2 ? 4 : 2;
                due.is("11: turned over " + passed[i] + ", " + passed[j], x.along(0, 5), want);
                due.is("11: of the other one", x.along(1, 5), want);
            }
        }
        // Just two CROSSINGS: over both times, and under both times.
        PlaitAndBreak x = Due.drawn("N22H12H32");
        int drawn = x.along(0, 5);
        x.set(203, 3);
        due.is("11: two CROSSINGS", x.along(0, 5), 2 - drawn);
        x.set(203, 0);
        x.set(201, 3);
        due.is("11: two CROSSINGS", x.along(0, 5), 2 - drawn);
        x.set(203, 3);
        due.is("11: two CROSSINGS", x.along(0, 5), drawn);
    }

    // "(of one with itself: how often it crosses itself)".
    private static void betweens() {
        PlaitAndBreak rings = Due.drawn(RINGS);
        for (int loop = 0; loop < 4; loop++) {
            for (int other = 0; other < 4; other++) {
                due.is("14: rings", rings.between(loop, other), 0);
            }
        }
        due.is("14: as along", Due.drawn("N13").between(0, 0), 2);
        PlaitAndBreak two = Due.drawn("N22");
        due.is("14: two", two.between(0, 1), 4);
        two.set(302, 3);
        due.is("14: TURNED OVER is in common, too", two.between(1, 0), 4);
        PlaitAndBreak eights = Due.drawn("N22O12H21H23");
        due.is("14: eights", eights.between(0, 1), 0);
        due.is("14: eights", eights.between(1, 1), 1);
        PlaitAndBreak all = longest();
        due.is("14: all", all.between(0, 0), 55);
        due.is("14: none less", all.between(0, 1), UNKNOWN);
        due.is("14: none less", all.between(-1, 0), UNKNOWN);
    }

    // "1, if a e less b d is above 0, else -1": it is never 0, as one falls and one rises.
    private static void signs() {
        Random random = new Random(16);
        for (int i = 0; i < 40; i++) {
            Reference want = Reference.made(1 + random.nextInt(6), 1 + random.nextInt(6), random.nextLong(), 2, 2);
            PlaitAndBreak x = new PlaitAndBreak();
            x.make(want.r, want.c, 0, 0, 0);
            for (int point : Reference.innerPoints(want.r, want.c)) {
                x.set(point, want.kind(point));
            }
            for (int point : want.crossings()) {
                int sign = x.sign(point);
                due.is("16: sign(" + point + ")", sign, want.sign(point));
                x.set(point, 3);
                due.is("16: turned over", x.sign(point), -sign);
                x.set(point, 0);
            }
        }
    }

    // "WRITHE, and 1000": 1000 if there is no CROSSING; below and above.
    private static void writhes() {
        due.is("17: no CROSSING", Due.drawn(RINGS).writhe(), 1000);
        due.is("17: one", Due.drawn("N12").writhe(), 1001);
        due.is("17: one turned over", Due.drawn("N12O12").writhe(), 999);
        due.is("17: two", Due.drawn("N13").writhe(), 1002);
        due.is("17: one and one turned over", Due.drawn("N13O14").writhe(), 1000);
        due.is("17: four below", Due.drawn("N22").writhe(), 996);
        due.is("17: four above", Due.drawn("N22O12O21O23O32").writhe(), 1004);
    }

    // "half of all SIGNS at their CROSSINGS"; "UNKNOWN; STATE: both are one".
    private static void links() {
        int[] points = {102, 201, 203, 302};
        PlaitAndBreak x = Due.drawn("N22");
        for (int i = 0; i <= 4; i++) {
            due.is("18: " + i + " turned over", x.linked(0, 1), 998 + i);
            due.is("18: the other way", x.linked(1, 0), 998 + i);
            if (i < 4) {
                x.set(points[i], 3);
            }
        }
        due.is("18: both are one", x.linked(0, 0), STATE);
        due.is("18: both are one", x.linked(1, 1), STATE);
        due.is("18: none, twice", x.linked(2, 2), UNKNOWN);
        due.is("18: none, twice", x.linked(-1, -1), UNKNOWN);
        due.is("18: none", x.linked(0, 2), UNKNOWN);
        due.is("18: none", x.linked(2, 0), UNKNOWN);
        due.is("18: nothing in common", Due.drawn(RINGS).linked(0, 3), 1000);
        // Where one crosses itself, and the WRITHE, count for nothing.
        PlaitAndBreak eights = Due.drawn("N22O12H21H23");
        due.is("18: eights", eights.linked(0, 1), 1000);
    }

    // "a LOOP that is never under is one ARC"; under once: one, too; under twice: two.
    private static void arcs() {
        due.is("9: no CROSSING", new PlaitAndBreak().about(11), 1);
        due.is("9: rings", Due.drawn(RINGS).about(11), 4);
        due.is("9: under once", Due.drawn("N12").about(11), 1);
        due.is("9: under twice", Due.drawn("N13").about(11), 2);
        PlaitAndBreak x = Due.drawn("N22");
        due.is("9: both under twice", x.about(11), 4);
        x.set(201, 3);
        due.is("9: under once and thrice", x.about(11), 4);
        x.set(203, 3);
        due.is("9: never under, and four times", x.about(11), 5);
        due.is("9: all of the longest", longest().about(11), 55);
    }

    // "OUTSIDE: p is not 3, 5, 7".
    private static void primes() {
        for (int p = -8; p <= 16; p++) {
            boolean fits = p == 3 || p == 5 || p == 7;
            due.is("19: colours(" + p + ")", new PlaitAndBreak().colours(p), fits ? 1 : OUTSIDE);
            due.is("19: rings, colours(" + p + ")", Due.drawn(RINGS).colours(p), fits ? 4 : OUTSIDE);
        }
    }

    // "There are p to the power of d ways": where the primes answer apart, and where nothing is tied.
    private static void colourings() {
        int[][] sizes = {{3, 2}, {2, 3}};
        for (int[] size : sizes) {
            PlaitAndBreak x = new PlaitAndBreak();
            x.make(size[0], size[1], 0, 0, 0);
            for (int p = 3; p <= 7; p += 2) {
                due.is("19: " + size[0] + " by " + size[1] + " round " + p, x.colours(p), p == 7 ? 1 : 2);
            }
        }
        PlaitAndBreak x = Due.drawn("N22");
        for (int p = 3; p <= 7; p += 2) {
            due.is("19: linked", x.colours(p), 1);
        }
        x.set(201, 3);
        x.set(203, 3);
        for (int p = 3; p <= 7; p += 2) {
            due.is("19: one lies on the other", x.colours(p), 2);
        }
        twisted();
    }

    // Two strands twisted about one another along the middle row, n times: more ways round p than p, if p divides n.
    private static void twisted() {
        String[] texts = {"N21", "N22H12H32", "N23H12H14H32H34", "N24H12H14H16H32H34H36",
            "N25H12H14H16H18H32H34H36H38", "N26H12H14H16H18H1aH32H34H36H38H3a"};
        for (int n = 1; n <= 6; n++) {
            PlaitAndBreak x = Due.drawn(texts[n - 1]);
            due.is("9: twisted " + n + " times", x.about(4), n);
            due.is("9: twisted " + n + " times", x.about(8), n % 2 == 0 ? 2 : 1);
            for (int p = 3; p <= 7; p += 2) {
                due.is("19: twisted " + n + " times, round " + p, x.colours(p), n % p == 0 ? 2 : 1);
            }
        }
        // What was asked before does not count: all of them on one object, there and back.
        int[] order = {6, 5, 4, 3, 2, 1, 2, 3, 4, 5, 6, 3, 5};
        PlaitAndBreak one = new PlaitAndBreak();
        for (int n : order) {
            one.wipe();
            Due.type(one, texts[n - 1]);
            one.plait();
            for (int p = 7; p >= 3; p -= 2) {
                due.is("19: then " + n + " times, round " + p, one.colours(p), n % p == 0 ? 2 : 1);
            }
        }
    }

    // PARTS, and FACES: "CROSSINGS and 1 and PARTS".
    private static void partsAndFaces() {
        List<String> texts = List.of("N11", "N12", "N12V12", "N22", RINGS, "N22O12H21H23", "N32H41H43", "N22H12H32");
        int[] parts = {1, 1, 2, 1, 4, 2, 2, 1};
        int[] crossings = {0, 1, 0, 4, 0, 2, 5, 2};
        for (int i = 0; i < parts.length; i++) {
            PlaitAndBreak x = Due.drawn(texts.get(i));
            due.is("9: PARTS of " + texts.get(i), x.about(9), parts[i]);
            due.is("9: CROSSINGS of " + texts.get(i), x.about(4), crossings[i]);
            due.is("9: FACES of " + texts.get(i), x.about(10), crossings[i] + 1 + parts[i]);
        }
        PlaitAndBreak lying = Due.drawn("N22H12H32O21");
        due.is("9: one that only lies on the other hangs by it", lying.about(9), 1);
    }
}
