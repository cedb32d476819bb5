/**
 * REFUSALS: of several the first that a call names, and what is refused changes nothing. Each refused call goes to one
 * of two objects that came about alike; behind it both must answer all questions alike. The same for all questions.
 */
public final class RefusalsTest {
    private static final String FULL_TEXT = fullText();
    private static final int MIN = Integer.MIN_VALUE;
    private static final int MAX = Integer.MAX_VALUE;
    private static final int UNKNOWN = -1, OUTSIDE = -2, STATE = -3, FULL = -4;
    private static final int[] ROUGH = {MIN, MIN + 1, -1000, -100, -1, 13, 14, 99, 10000, 65536, MAX - 1, MAX};
    private static final Due due = new Due();

    private interface Ask {
        int of(PlaitAndBreak x);
    }

    /** How an object came about: each makes another one alike. */
    private enum Start { NEW, BROKEN, FILLED, APART }

    public static void main(String[] args) {
        for (Start start : Start.values()) {
            refusedWrites(start);
            refusedMakes(start);
            refusedPoints(start);
            refusedLoops(start);
            refusedNumbers(start);
            refusedSlots(start);
            refusedFirst(start);
            questions(start);
        }
        refusedByState();
        due.end();
    }

    private static String fullText() {
        StringBuilder text = new StringBuilder("N66");
        for (int point : Reference.innerPoints(6, 6)) {
            if (text.length() < 72) {
                text.append("HVO".charAt(point % 3));
                text.append("0123456789ab".charAt(point / 100)).append("0123456789ab".charAt(point % 100));
            }
        }
        return text.toString();
    }

    private static PlaitAndBreak begin(Start start) {
        PlaitAndBreak x = new PlaitAndBreak();
        switch (start) {
            case BROKEN:
                x.make(1, 2, 0, 0, 10);
                x.keep(1);
                x = drawOver(x, "N22H12O21");
                Due.type(x, "N22H1");
                break;
            case FILLED:
                x = drawOver(x, "N23V21O12");
                x.keep(0);
                x.set(205, 1);
                Due.type(x, FULL_TEXT);
                break;
            case APART:
                x = drawOver(x, "N22V12V32H21H23");
                x.keep(0);
                x.keep(1);
                Due.type(x, "N31O21");
                break;
            default:
        }
        return x;
    }

    private static PlaitAndBreak drawOver(PlaitAndBreak x, String text) {
        Due.type(x, text);
        x.plait();
        x.wipe();
        return x;
    }

    private static void refused(Start start, String call, int want, Ask ask) {
        PlaitAndBreak x = begin(start);
        due.is(start + ": " + call, ask.of(x), want);
        due.isTrue(start + ": " + call + " changes nothing", Look.at(x).equals(Look.at(begin(start))));
        due.is(start + ": " + call + " twice", twice(start, ask), want);
    }

    private static int twice(Start start, Ask ask) {
        PlaitAndBreak x = begin(start);
        ask.of(x);
        return ask.of(x);
    }

    private static void refusedWrites(Start start) {
        int[] outside = {0, 9, 10, -1, -8, 64, 72, MIN, MAX};
        for (int n : outside) {
            refused(start, "write(" + n + ")", OUTSIDE, x -> x.write(n, 0x4e31314e3131L));
        }
    }

    private static void refusedMakes(Start start) {
        int[] squares = {0, 7, -1, -6, MIN, MAX};
        for (int n : squares) {
            refused(start, "make(" + n + ", 1)", OUTSIDE, x -> x.make(n, 1, 3, 2, 2));
            refused(start, "make(6, " + n + ")", OUTSIDE, x -> x.make(6, n, 3, 2, 2));
        }
        int[][] kinds = {{-1, 0}, {0, -1}, {11, 0}, {0, 11}, {10, 1}, {1, 10}, {5, 6}, {6, 5}, {10, 10}, {-1, 11}, {11, -1},
            {-1, -1}, {MAX, 0}, {0, MAX}, {MAX, MAX}, {MIN, 0}, {0, MIN}, {MIN, MIN}, {MAX, MIN}, {MAX, 1}, {1, MAX}};
        for (int[] kind : kinds) {
            refused(start, "make(.., " + kind[0] + ", " + kind[1] + ")", OUTSIDE, x -> x.make(2, 2, 3, kind[0], kind[1]));
        }
    }

    // POINTS that are inner ones of none of the starts: of the rim, of no odd sum, far away.
    private static void refusedPoints(Start start) {
        int[] points = {0, 1, 3, 5, 100, 300, 401, 403, 101, 202, 303, 106, 107, 112, 199, 1002, 1110, 1200, -102, -201,
            MIN, MIN + 102, -1, -100, 10201, 65536 + 102, MAX, MAX - 1};
        for (int p : points) {
            refused(start, "point(" + p + ")", UNKNOWN, x -> x.point(p));
            refused(start, "set(" + p + ", 1)", UNKNOWN, x -> x.set(p, 1));
            refused(start, "which(" + p + ", true)", UNKNOWN, x -> x.which(p, true));
            refused(start, "which(" + p + ", false)", UNKNOWN, x -> x.which(p, false));
            refused(start, "sign(" + p + ")", UNKNOWN, x -> x.sign(p));
            refused(start, "by(" + p + ", 2)", UNKNOWN, x -> x.by(p, 2));
        }
    }

    private static void refusedLoops(Start start) {
        int count = begin(start).about(8);
        int[] loops = {count, count + 1, 36, 37, 144, -1, -2, MIN, MAX};
        for (int n : loops) {
            refused(start, "along(" + n + ", 0)", UNKNOWN, x -> x.along(n, 0));
            refused(start, "step(" + n + ", 0)", UNKNOWN, x -> x.step(n, 0));
            refused(start, "end(" + n + ", 0)", UNKNOWN, x -> x.end(n, 0));
            refused(start, "between(" + n + ", 0)", UNKNOWN, x -> x.between(n, 0));
            refused(start, "between(0, " + n + ")", UNKNOWN, x -> x.between(0, n));
            refused(start, "linked(" + n + ", 0)", UNKNOWN, x -> x.linked(n, 0));
            refused(start, "linked(0, " + n + ")", UNKNOWN, x -> x.linked(0, n));
        }
        int rows = 2 * begin(start).about(0);
        int columns = 2 * begin(start).about(1);
        int[] cells = {columns, 100 + columns, 99, 199, 11, 12, 112, 100 * rows, 100 * rows + columns, 1111, 1200, 1212, -1,
            -100, -101, MIN, MAX};
        for (int cell : cells) {
            refused(start, "loop(" + cell + ")", UNKNOWN, x -> x.loop(cell));
        }
    }

    private static void refusedNumbers(Start start) {
        for (int n : ROUGH) {
            refused(start, "about(" + n + ")", OUTSIDE, x -> x.about(n));
            refused(start, "along(0, " + n + ")", OUTSIDE, x -> x.along(0, n));
            refused(start, "colours(" + n + ")", OUTSIDE, x -> x.colours(n));
            refused(start, "most(" + n + ")", OUTSIDE, x -> x.most(n));
            refused(start, "same(" + n + ")", OUTSIDE, x -> x.same(n));
        }
        refused(start, "along(0, 6)", OUTSIDE, x -> x.along(0, 6));
        refused(start, "same(8)", OUTSIDE, x -> x.same(8));
        refused(start, "most(0)", OUTSIDE, x -> x.most(0));
        refused(start, "most(3)", OUTSIDE, x -> x.most(3));
        int[] primes = {0, 1, 2, 4, 6, 8, 9, 11, -3, -5, -7};
        for (int p : primes) {
            refused(start, "colours(" + p + ")", OUTSIDE, x -> x.colours(p));
        }
        int[] steps = {-1, -2, 10000, 10001, 19998, MIN, MAX};
        for (int k : steps) {
            refused(start, "step(0, " + k + ")", OUTSIDE, x -> x.step(0, k));
            refused(start, "end(0, " + k + ")", OUTSIDE, x -> x.end(0, k));
        }
    }

    private static void refusedSlots(Start start) {
        int[] slots = {-1, 2, 3, -2, MIN, MAX};
        for (int slot : slots) {
            refused(start, "keep(" + slot + ")", UNKNOWN, x -> x.keep(slot));
            refused(start, "again(" + slot + ")", UNKNOWN, x -> x.again(slot));
        }
    }

    // Wrong in two ways at once.
    private static void refusedFirst(Start start) {
        int none = begin(start).about(8);
        refused(start, "set: UNKNOWN before OUTSIDE", UNKNOWN, x -> x.set(101, 4));
        refused(start, "set: UNKNOWN before OUTSIDE", UNKNOWN, x -> x.set(1, -1));
        refused(start, "by: UNKNOWN before OUTSIDE", UNKNOWN, x -> x.by(101, 3));
        refused(start, "by: UNKNOWN before OUTSIDE", UNKNOWN, x -> x.by(1, -1));
        refused(start, "along: UNKNOWN before OUTSIDE", UNKNOWN, x -> x.along(none, 6));
        refused(start, "step: UNKNOWN before OUTSIDE", UNKNOWN, x -> x.step(none, 10000));
        refused(start, "end: UNKNOWN before OUTSIDE", UNKNOWN, x -> x.end(-1, -1));
        refused(start, "linked: UNKNOWN before STATE", UNKNOWN, x -> x.linked(none, none));
        refused(start, "linked: UNKNOWN before STATE", UNKNOWN, x -> x.linked(-1, -1));
        refused(start, "write: OUTSIDE before FULL", OUTSIDE, x -> x.write(0, 0));
        refused(start, "write: OUTSIDE before FULL", OUTSIDE, x -> x.write(73, 0));
        refused(start, "again: UNKNOWN before STATE", UNKNOWN, x -> x.again(2));
    }

    private static void refusedByState() {
        refused(Start.NEW, "plait(), no text", STATE, x -> x.plait());
        refused(Start.BROKEN, "plait(), a text not at its end", STATE, x -> x.plait());
        for (int n = 1; n <= 8; n++) {
            int bytes = n;
            refused(Start.FILLED, "write(" + n + ") behind 72", FULL, x -> x.write(bytes, 0x4848484848484848L));
        }
        for (int n : ROUGH) {
            refused(Start.BROKEN, "set(102, " + n + ")", OUTSIDE, x -> x.set(102, n));
            refused(Start.BROKEN, "by(203, " + n + ")", OUTSIDE, x -> x.by(203, n));
        }
        refused(Start.BROKEN, "set(102, 4)", OUTSIDE, x -> x.set(102, 4));
        refused(Start.BROKEN, "by(102, 3)", OUTSIDE, x -> x.by(102, 3));
        for (int point : new int[] {102, 302, 201, 203}) {
            refused(Start.APART, "which(" + point + ", true) at a break", STATE, x -> x.which(point, true));
            refused(Start.APART, "which(" + point + ", false) at a break", STATE, x -> x.which(point, false));
            refused(Start.APART, "sign(" + point + ") at a break", STATE, x -> x.sign(point));
        }
        for (Start start : Start.values()) {
            for (int loop = begin(start).about(8) - 1; loop >= 0; loop--) {
                int one = loop;
                refused(start, "linked(" + one + ", " + one + ")", STATE, x -> x.linked(one, one));
            }
        }
        refused(Start.NEW, "again(0)", STATE, x -> x.again(0));
        refused(Start.NEW, "again(1)", STATE, x -> x.again(1));
        refused(Start.BROKEN, "again(0), only 1 was kept", STATE, x -> x.again(0));
        refused(Start.FILLED, "again(1), only 0 was kept", STATE, x -> x.again(1));
    }

    private static void asked(Start start, String call, Ask ask) {
        PlaitAndBreak x = begin(start);
        ask.of(x);
        due.isTrue(start + ": " + call + " changes nothing", Look.at(x).equals(Look.at(begin(start))));
    }

    // What only asks, and finds something.
    private static void questions(Start start) {
        asked(start, "fault()", x -> x.fault());
        asked(start, "writhe()", x -> x.writhe());
        asked(start, "one()", x -> x.one());
        asked(start, "oneAt(0)", x -> x.oneAt(0));
        asked(start, "oneAt(-1)", x -> x.oneAt(-1));
        asked(start, "step(0, 9999)", x -> x.step(0, 9999));
        asked(start, "end(0, 9999)", x -> x.end(0, 9999));
        asked(start, "between(0, 0)", x -> x.between(0, 0));
        for (int n = 0; n <= 12; n++) {
            int what = n;
            asked(start, "about(" + n + ")", x -> x.about(what));
            asked(start, "same(" + n % 8 + ")", x -> x.same(what % 8));
            asked(start, "along(0, " + n % 6 + ")", x -> x.along(0, what % 6));
        }
        for (int p = 3; p <= 7; p += 2) {
            int prime = p;
            asked(start, "colours(" + p + ")", x -> x.colours(prime));
        }
        asked(start, "most(1)", x -> x.most(1));
        asked(start, "most(2)", x -> x.most(2));
        for (int point : Reference.innerPoints(begin(start).about(0), begin(start).about(1))) {
            asked(start, "point(" + point + ")", x -> x.point(point));
            asked(start, "sign(" + point + ")", x -> x.sign(point));
            asked(start, "which(" + point + ")", x -> x.which(point, true));
            for (int n = 0; n <= 2; n++) {
                int what = n;
                asked(start, "by(" + point + ", " + n + ")", x -> x.by(point, what));
            }
        }
    }
}
