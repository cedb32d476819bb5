/** Each promise by itself: ordinary inputs, edges, refusals. What is due here was worked out by hand. */
public final class PromisesTest {
    private static final int UNKNOWN = -1, OUTSIDE = -2, STATE = -3, FULL = -4, NONE = -9;
    private static final int[] WILD = {Integer.MIN_VALUE, -1000, -1, 10000, 65536, Integer.MAX_VALUE};
    private static final Due due = new Due();

    public static void main(String[] args) {
        constants();
        newObject();
        write();
        wipe();
        fault();
        plait();
        make();
        point();
        set();
        about();
        loop();
        along();
        stepAndEnd();
        between();
        which();
        sign();
        writhe();
        linked();
        colours();
        by();
        most();
        one();
        same();
        slots();
        due.end();
    }

    private static void constants() {
        due.is("UNKNOWN", PlaitAndBreak.UNKNOWN, -1);
        due.is("OUTSIDE", PlaitAndBreak.OUTSIDE, -2);
        due.is("STATE", PlaitAndBreak.STATE, -3);
        due.is("FULL", PlaitAndBreak.FULL, -4);
        due.is("NONE", PlaitAndBreak.NONE, -9);
    }

    private static void newObject() {
        PlaitAndBreak x = new PlaitAndBreak();
        int[] want = {1, 1, 4, 0, 0, 0, 0, 0, 1, 1, 2, 1, 0};
        for (int what = 0; what < want.length; what++) {
            due.is("1: about(" + what + ")", x.about(what), want[what]);
        }
        due.is("1: again(0)", x.again(0), STATE);
        due.is("1: again(1)", x.again(1), STATE);
    }

    private static void write() {
        PlaitAndBreak x = new PlaitAndBreak();
        due.is("2: write(0)", x.write(0, 1), OUTSIDE);
        due.is("2: write(9)", x.write(9, 1), OUTSIDE);
        for (int n : WILD) {
            due.is("2: write(" + n + ")", x.write(n, 1), OUTSIDE);
        }
        due.is("2: nothing came", x.about(12), 0);
        // Only the lowest bytes count: the higher ones are noise.
        due.is("2: write(3)", x.write(3, 0x7fff_ff00_004e_3232L), 3);
        due.is("2: N22", x.fault(), NONE);
        due.is("2: write(8) below 0", x.write(8, -1L), 11);
        due.is("2: byte 255 is no letter", x.fault(), 3);
        x.wipe();
        for (int i = 1; i <= 9; i++) {
            due.is("2: write(8)", x.write(8, 0x4e31_314e_3131_4e31L), 8 * i);
        }
        due.is("2: full", x.write(1, 'N'), FULL);
        due.is("2: OUTSIDE before FULL", x.write(0, 'N'), OUTSIDE);
        due.is("2: still 72", x.about(12), 72);
        x.wipe();
        for (int i = 1; i <= 13; i++) {
            x.write(5, 0);
        }
        due.is("2: 65 and 8", x.write(8, 0), FULL);
        due.is("2: 65 and 7", x.write(7, 0), 72);
    }

    private static void wipe() {
        PlaitAndBreak x = Due.drawn("N23");
        due.is("3: empty", x.wipe(), 0);
        Due.type(x, "N44H12");
        due.is("3: wipe()", x.wipe(), 6);
        due.is("3: nothing left", x.about(12), 0);
        due.is("3: THE PLAIT stays", x.about(3), 7);
        due.is("3: twice", x.wipe(), 0);
    }

    private static void faultOf(String text, int want) {
        PlaitAndBreak x = new PlaitAndBreak();
        Due.type(x, text);
        due.is("4: fault of " + text, x.fault(), want);
        due.is("4: again, of " + text, x.fault(), want);
    }

    private static void fault() {
        faultOf("", 0);
        faultOf("N", 1);
        faultOf("N1", 2);
        faultOf("N11", NONE);
        faultOf("N66", NONE);
        faultOf("n11", 0);
        faultOf("N01", 1);
        faultOf("N71", 1);
        faultOf("N10", 2);
        faultOf("N17", 2);
        faultOf("Na1", 1);
        faultOf("N22H", 4);
        faultOf("N22H1", 5);
        faultOf("N22H12", NONE);
        faultOf("N22V12", NONE);
        faultOf("N22O12", NONE);
        faultOf("N22X12", 3);
        faultOf("N22h12", 3);
        faultOf("N22H02", 4);
        faultOf("N22H42", 4);
        faultOf("N22H/2", 4);
        faultOf("N22H:2", 4);
        faultOf("N22H11", 5);
        faultOf("N22H10", 5);
        faultOf("N22H14", 5);
        faultOf("N22H20", 5);
        faultOf("N22H23", NONE);
        // Rows with no point left end a text before the point is told.
        faultOf("N22H12V12", 7);
        faultOf("N22H21V21", 8);
        faultOf("N22H21V23O2", 10);
        // No letter fits where no point is left.
        faultOf("N11H", 3);
        faultOf("N12H12V", 6);
        faultOf("N22H12V21O23H32", NONE);
        faultOf("N22H12V21O23H32O", 15);
        // One square across: odd rows have no inner points at all.
        faultOf("N31H1", 4);
        faultOf("N31H21", NONE);
        faultOf("N66Hab", NONE);
        faultOf("N66Hba", NONE);
        faultOf("N66Hbb", 5);
        faultOf("N66HAB", 4);
        faultOf("N66Hc1", 4);
        faultOf("N66Haa", 5);
        faultOf("N55Hba", 4);
        faultOf("N56H9b", 5);
        faultOf("N65H9b", 5);
        faultOf("N66H9b", 5);
        faultOf("N66H8b", NONE);
        faultOf("N56Hab", 4);
        faultOf("N65Hb8", NONE);
        // The whole length: 23 parts.
        String part = "N66";
        String points = "12141618" + "1a" + "2123252729" + "2b" + "32343638" + "3a" + "4143454749" + "4b" + "52";
        for (int i = 0; i < 23; i++) {
            part = part + "HVO".charAt(i % 3) + points.substring(2 * i, 2 * i + 2);
        }
        due.is("4: length", part.length(), 72);
        faultOf(part, NONE);
        faultOf(part.substring(0, 71), 71);
        faultOf(part.substring(0, 70), 70);
        faultOf(part.substring(0, 71) + "1", 71);
    }

    private static void plait() {
        PlaitAndBreak x = new PlaitAndBreak();
        due.is("5: empty", x.plait(), STATE);
        Due.type(x, "N23H12V21O23");
        due.is("5: plait()", x.plait(), 7);
        due.is("5: the text stays", x.about(12), 12);
        due.is("5: level", x.point(102), 1);
        due.is("5: upright", x.point(201), 2);
        due.is("5: turned over", x.point(203), 3);
        due.is("5: crossing", x.point(205), 0);
        x.keep(0);
        Due.type(x, "H12");
        String before = Due.all(x);
        due.is("5: a FAULT", x.plait(), STATE);
        due.isTrue("5: refused changes nothing", before.equals(Due.all(x)));
        x.wipe();
        Due.type(x, "N42");
        due.is("5: another", x.plait(), 10);
        due.is("5: nothing of the one before", x.about(4), 10);
        due.is("5: slots stay", x.again(0), 7);
        due.is("5: slots stay", x.point(102), 1);
        x.set(102, 0);
        due.is("5: the plait is not the text", x.fault(), NONE);
        due.is("5: from the text again", x.plait(), 10);
    }

    private static void make() {
        PlaitAndBreak x = Due.drawn("N23V12");
        int[] less = {0, 7, -1, Integer.MIN_VALUE, Integer.MAX_VALUE};
        String before = Due.all(x);
        for (int n : less) {
            due.is("6: make(" + n + ", 1)", x.make(n, 1, 5, 0, 0), OUTSIDE);
            due.is("6: make(1, " + n + ")", x.make(1, n, 5, 0, 0), OUTSIDE);
        }
        int[] more = {-1, 11, Integer.MIN_VALUE, Integer.MAX_VALUE};
        for (int n : more) {
            due.is("6: h " + n, x.make(1, 1, 5, n, 0), OUTSIDE);
            due.is("6: v " + n, x.make(1, 1, 5, 0, n), OUTSIDE);
        }
        due.is("6: h and v", x.make(1, 1, 5, Integer.MAX_VALUE, Integer.MAX_VALUE), OUTSIDE);
        due.is("6: h and v", x.make(1, 1, 5, 1, 10), OUTSIDE);
        due.is("6: h and v", x.make(1, 1, 5, 11, -1), OUTSIDE);
        due.isTrue("6: refused changes nothing", before.equals(Due.all(x)));
        for (int r = 1; r <= 6; r++) {
            for (int c = 1; c <= 6; c++) {
                due.is("6: make(" + r + ", " + c + ")", x.make(r, c, 5, 0, 0), r * (c - 1) + (r - 1) * c);
                due.is("6: r", x.about(0), r);
                due.is("6: c", x.about(1), c);
            }
        }
        x.make(6, 6, 5, 10, 0);
        due.is("6: all level", x.about(5), 60);
        x.make(6, 6, 5, 0, 10);
        due.is("6: all upright", x.about(6), 60);
        Due.type(x, "N11");
        // From seed 0 the first x is the addend, 1442695040888963407: its upper 31 bits are 167951807.
        x.make(2, 2, 0, 7, 1);
        due.is("6: 7 is not below 7", x.point(102), 2);
        x.make(2, 2, 0, 8, 1);
        due.is("6: 7 is below 8", x.point(102), 1);
        x.make(2, 2, 0, 4, 3);
        due.is("6: 7 is not below 4 and 3", x.point(102), 0);
        due.is("6: THE TEXT stays", x.about(12), 3);
    }

    private static void point() {
        PlaitAndBreak x = Due.drawn("N23H12V21O23");
        int[][] want = {{102, 1}, {104, 0}, {201, 2}, {203, 3}, {205, 0}, {302, 0}, {304, 0}};
        for (int[] pair : want) {
            due.is("7: point(" + pair[0] + ")", x.point(pair[0]), pair[1]);
        }
        int[] rim = {1, 3, 5, 100, 300, 106, 306, 401, 403, 405, 0, 101, 103, 202, 406, 502, 107, 207, 1102, -102, 112, 10102};
        for (int p : rim) {
            due.is("7: point(" + p + ")", x.point(p), UNKNOWN);
        }
        for (int p : WILD) {
            due.is("7: point(" + p + ")", x.point(p), UNKNOWN);
        }
    }

    private static void set() {
        PlaitAndBreak x = Due.drawn("N22");
        due.is("8: set", x.set(102, 1), 0);
        due.is("8: set", x.set(102, 2), 1);
        due.is("8: set", x.set(102, 3), 2);
        due.is("8: set", x.set(102, 0), 3);
        due.is("8: set the same", x.set(102, 0), 0);
        x.set(302, 3);
        String before = Due.all(x);
        due.is("8: UNKNOWN first", x.set(103, 4), UNKNOWN);
        due.is("8: the rim", x.set(1, 1), UNKNOWN);
        due.is("8: OUTSIDE", x.set(302, 4), OUTSIDE);
        due.is("8: OUTSIDE", x.set(302, -1), OUTSIDE);
        for (int n : WILD) {
            due.is("8: set(" + n + ")", x.set(n, 1), UNKNOWN);
            due.is("8: set(302, " + n + ")", x.set(302, n), OUTSIDE);
        }
        due.isTrue("8: refused changes nothing", before.equals(Due.all(x)));
        due.is("8: turned over is a crossing", x.about(4), 4);
    }

    private static void about() {
        PlaitAndBreak x = Due.drawn("N23H12V21O23");
        int[] want = {2, 3, 24, 7, 5, 1, 1, 1, 1, 1, 7, 5, 0};
        for (int what = 0; what < want.length; what++) {
            due.is("9: about(" + what + ")", x.about(what), want[what]);
        }
        due.is("9: about(13)", x.about(13), OUTSIDE);
        for (int n : WILD) {
            due.is("9: about(" + n + ")", x.about(n), OUTSIDE);
        }
        // Walls round each square: 4 loops that hang together by nothing.
        PlaitAndBreak y = Due.drawn("N22V12V32H21H23");
        due.is("9: loops", y.about(8), 4);
        due.is("9: parts", y.about(9), 4);
        due.is("9: faces", y.about(10), 5);
        due.is("9: arcs", y.about(11), 4);
        // The same with all squares there may be.
        PlaitAndBreak most = new PlaitAndBreak();
        most.make(6, 6, 0, 0, 0);
        for (int point : Reference.innerPoints(6, 6)) {
            most.set(point, point / 100 % 2 == 1 ? 2 : 1);
        }
        int[] wants = {6, 6, 144, 60, 0, 30, 30, 0, 36, 36, 37, 36, 0};
        for (int what = 0; what < wants.length; what++) {
            due.is("9: a ring in each square, about(" + what + ")", most.about(what), wants[what]);
        }
        due.is("10: the last ring", most.loop(1111), 35);
        due.is("11: the last ring", most.along(35, 1), 4);
        due.is("12: the last ring", most.step(35, 9999), 1011);
        due.is("13: the last ring", most.end(35, 9999), 1011);
        due.is("19: a ring in each square", most.colours(7), 36);
        due.is("20: one ring less", most.by(1110, 0), 35);
        due.is("22: a ring in each square", most.one(), NONE);
        // Two loops, each of which crosses itself once.
        PlaitAndBreak z = Due.drawn("N22O12H21H23");
        due.is("9: loops of two eights", z.about(8), 2);
        due.is("9: parts of two eights", z.about(9), 2);
        due.is("9: faces of two eights", z.about(10), 5);
        due.is("9: arcs of two eights", z.about(11), 2);
        // Two rings with two crossings, alternating; then one lies over the other both times: never under, it is one arc.
        PlaitAndBreak rings = Due.drawn("N22H12H32");
        due.is("9: arcs of two rings", rings.about(11), 2);
        rings.set(201, 3);
        due.is("9: arcs of two rings apart", rings.about(11), 3);
        due.is("9: they hang together all the same", rings.about(9), 1);
    }

    private static void loop() {
        PlaitAndBreak x = Due.drawn("N22");
        // By hand: 0 goes 0, 100, 201, 302, 303, 203, 102, 1; the rest are loop 1.
        int[] first = {0, 100, 201, 302, 303, 203, 102, 1};
        for (int cell : first) {
            due.is("10: loop(" + cell + ")", x.loop(cell), 0);
        }
        int[] second = {2, 101, 200, 300, 301, 202, 103, 3};
        for (int cell : second) {
            due.is("10: loop(" + cell + ")", x.loop(cell), 1);
        }
        int[] none = {4, 104, 400, 11, 1100, 12, 99, -100, 1200, 304};
        for (int cell : none) {
            due.is("10: loop(" + cell + ")", x.loop(cell), UNKNOWN);
        }
        for (int n : WILD) {
            due.is("10: loop(" + n + ")", x.loop(n), UNKNOWN);
        }
        x.make(6, 6, 0, 0, 0);
        x.make(1, 1, 0, 0, 0);
        due.is("10: nothing of the one before", x.loop(1111), UNKNOWN);
    }

    private static void along() {
        PlaitAndBreak x = Due.drawn("N22");
        int[][] want = {{0, 8, 4, 4, 0, 0}, {2, 8, 4, 4, 0, 0}};
        for (int loop = 0; loop < 2; loop++) {
            for (int what = 0; what < 6; what++) {
                due.is("11: along(" + loop + ", " + what + ")", x.along(loop, what), want[loop][what]);
            }
        }
        due.is("11: UNKNOWN first", x.along(2, 6), UNKNOWN);
        due.is("11: OUTSIDE", x.along(1, 6), OUTSIDE);
        for (int n : WILD) {
            due.is("11: along(" + n + ", 0)", x.along(n, 0), UNKNOWN);
            due.is("11: along(0, " + n + ")", x.along(0, n), OUTSIDE);
        }
        x.set(102, 3);
        due.is("11: one turned over", x.along(0, 5), 2);
        due.is("11: one turned over", x.along(1, 5), 2);
        x.set(203, 3);
        // By hand: 0 passes 201, 302, 203, 102.
        due.is("11: round and round", x.along(0, 5), uneven(x, new int[] {201, 302, 203, 102}));
        PlaitAndBreak y = Due.drawn("N12");
        int[] eight = {0, 8, 6, 2, 1, 0};
        for (int what = 0; what < 6; what++) {
            due.is("11: a loop that crosses itself, " + what, y.along(0, what), eight[what]);
        }
        // Two rings with two crossings: over and under, over and under; with one turned over 2 PLACES each, round and round.
        PlaitAndBreak z = Due.drawn("N22H12H32");
        due.is("11: two rings", z.about(8), 2);
        due.is("11: two rings", z.between(0, 1), 2);
        int turned = z.along(0, 5) == 0 ? 2 : 0;
        z.set(201, 3);
        due.is("11: two crossings", z.along(0, 5), turned);
        due.is("11: two crossings", z.along(1, 5), turned);
    }

    private static int uneven(PlaitAndBreak x, int[] points) {
        int count = 0;
        for (int i = 0; i < points.length; i++) {
            boolean here = x.which(points[i], true) == 0;
            boolean next = x.which(points[(i + 1) % points.length], true) == 0;
            if (here == next) {
                count++;
            }
        }
        return count;
    }

    private static void stepAndEnd() {
        PlaitAndBreak x = Due.drawn("N22");
        int[] cells = {0, 100, 201, 302, 303, 203, 102, 1};
        int[] ends = {100, 201, 302, 403, 304, 203, 102, 1};
        for (int k = 0; k < 8; k++) {
            due.is("12: step(0, " + k + ")", x.step(0, k), cells[k]);
            due.is("13: end(0, " + k + ")", x.end(0, k), ends[k]);
            due.is("12: round", x.step(0, k + 9992), cells[k]);
            due.is("13: round", x.end(0, k + 9992), ends[k]);
        }
        // From 2 on falling to the left.
        int[] others = {2, 101, 200, 300, 301, 202, 103, 3};
        int[] otherEnds = {102, 201, 300, 401, 302, 203, 104, 3};
        for (int k = 0; k < 8; k++) {
            due.is("12: step(1, " + k + ")", x.step(1, k), others[k]);
            due.is("13: end(1, " + k + ")", x.end(1, k), otherEnds[k]);
        }
        due.is("12: UNKNOWN first", x.step(2, -1), UNKNOWN);
        due.is("13: UNKNOWN first", x.end(2, -1), UNKNOWN);
        for (int n : WILD) {
            due.is("12: step(" + n + ", 0)", x.step(n, 0), UNKNOWN);
            due.is("13: end(" + n + ", 0)", x.end(n, 0), UNKNOWN);
            due.is("12: step(0, " + n + ")", x.step(0, n), OUTSIDE);
            due.is("13: end(0, " + n + ")", x.end(0, n), OUTSIDE);
        }
    }

    private static void between() {
        PlaitAndBreak x = Due.drawn("N22");
        due.is("14: two loops", x.between(0, 1), 4);
        due.is("14: the other way", x.between(1, 0), 4);
        due.is("14: with itself", x.between(0, 0), 0);
        due.is("14: UNKNOWN", x.between(0, 2), UNKNOWN);
        due.is("14: UNKNOWN", x.between(2, 0), UNKNOWN);
        for (int n : WILD) {
            due.is("14: UNKNOWN", x.between(n, 0), UNKNOWN);
            due.is("14: UNKNOWN", x.between(0, n), UNKNOWN);
        }
        due.is("14: once, not twice", Due.drawn("N12").between(0, 0), 1);
    }

    private static void which() {
        PlaitAndBreak x = Due.drawn("N22");
        // 102: y is odd, so what falls to the right is over: cells 1 and 102, which are of loop 0.
        due.is("15: odd, over", x.which(102, true), 0);
        due.is("15: odd, under", x.which(102, false), 1);
        // 201: y is even, so what rises to the right is over: cells 200 and 101, of loop 1.
        due.is("15: even, over", x.which(201, true), 1);
        due.is("15: even, under", x.which(201, false), 0);
        x.set(102, 3);
        x.set(201, 3);
        due.is("15: turned over", x.which(102, true), 1);
        due.is("15: turned over", x.which(102, false), 0);
        due.is("15: turned over", x.which(201, true), 0);
        due.is("15: turned over", x.which(201, false), 1);
        x.set(102, 1);
        x.set(201, 2);
        due.is("15: level", x.which(102, true), STATE);
        due.is("15: upright", x.which(201, false), STATE);
        due.is("15: rim", x.which(1, true), UNKNOWN);
        for (int n : WILD) {
            due.is("15: " + n, x.which(n, true), UNKNOWN);
        }
    }

    private static void sign() {
        PlaitAndBreak x = Due.drawn("N22");
        // 102: over falls back (-1, -1) from cell 102 to 1, under falls (-1, 1): -1 times 1 less -1 times -1 is -2.
        due.is("16: sign(102)", x.sign(102), -1);
        // 201: over (-1, 1) from 101 to 200, under (1, 1) from 100 to 201: -1 less 1 is -2.
        due.is("16: sign(201)", x.sign(201), -1);
        x.set(201, 3);
        due.is("16: turned over", x.sign(201), 1);
        x.set(201, 1);
        due.is("16: level", x.sign(201), STATE);
        x.set(201, 2);
        due.is("16: upright", x.sign(201), STATE);
        due.is("16: rim", x.sign(1), UNKNOWN);
        due.is("16: no point", x.sign(202), UNKNOWN);
        for (int n : WILD) {
            due.is("16: " + n, x.sign(n), UNKNOWN);
        }
    }

    private static void writhe() {
        due.is("17: no crossing", new PlaitAndBreak().writhe(), 1000);
        PlaitAndBreak x = Due.drawn("N22");
        due.is("17: all less than 0", x.writhe(), 996);
        x.set(102, 3);
        due.is("17: one turned over", x.writhe(), 998);
        x.set(201, 2);
        due.is("17: of one loop or more", x.writhe() - 1000, sum(x, new int[] {102, 203, 302}));
    }

    private static int sum(PlaitAndBreak x, int[] points) {
        int sum = 0;
        for (int p : points) {
            sum += x.sign(p);
        }
        return sum;
    }

    private static void linked() {
        PlaitAndBreak x = Due.drawn("N22");
        due.is("18: linked", x.linked(0, 1), 998);
        due.is("18: linked", x.linked(1, 0), 998);
        x.set(102, 3);
        x.set(302, 3);
        due.is("18: not linked", x.linked(0, 1), 1000);
        x.set(201, 3);
        x.set(203, 3);
        due.is("18: the other way round", x.linked(0, 1), 1002);
        due.is("18: one and the same", x.linked(1, 1), STATE);
        due.is("18: UNKNOWN before STATE", x.linked(2, 2), UNKNOWN);
        for (int n : WILD) {
            due.is("18: UNKNOWN", x.linked(n, 0), UNKNOWN);
            due.is("18: UNKNOWN", x.linked(0, n), UNKNOWN);
            due.is("18: UNKNOWN", x.linked(n, n), UNKNOWN);
        }
    }

    private static void colours() {
        PlaitAndBreak x = new PlaitAndBreak();
        for (int p = -3; p <= 12; p++) {
            due.is("19: colours(" + p + ")", x.colours(p), p == 3 || p == 5 || p == 7 ? 1 : OUTSIDE);
        }
        for (int n : WILD) {
            due.is("19: colours(" + n + ")", x.colours(n), OUTSIDE);
        }
        due.is("19: a loop that can be undone", Due.drawn("N13").colours(3), 1);
        due.is("19: four rings apart", Due.drawn("N22V12V32H21H23").colours(7), 4);
        // 3 by 2 squares are a knot of seven crossings, whose determinant is 15.
        PlaitAndBreak y = new PlaitAndBreak();
        y.make(3, 2, 0, 0, 0);
        due.is("19: 3 by 2 round 3", y.colours(3), 2);
        due.is("19: 3 by 2 round 5", y.colours(5), 2);
        due.is("19: 3 by 2 round 7", y.colours(7), 1);
    }

    private static void by() {
        PlaitAndBreak x = Due.drawn("N12");
        due.is("20: as it is", x.by(102, 0), 1);
        due.is("20: level", x.by(102, 1), 1);
        due.is("20: upright", x.by(102, 2), 2);
        x.set(102, 2);
        due.is("20: instead of a break", x.by(102, 0), 1);
        due.is("20: instead of a break", x.by(102, 1), 1);
        due.is("20: the same break", x.by(102, 2), 2);
        String before = Due.all(x);
        due.is("20: UNKNOWN first", x.by(1, 3), UNKNOWN);
        due.is("20: OUTSIDE", x.by(102, 3), OUTSIDE);
        due.is("20: OUTSIDE", x.by(102, -1), OUTSIDE);
        for (int n : WILD) {
            due.is("20: UNKNOWN", x.by(n, 0), UNKNOWN);
            due.is("20: OUTSIDE", x.by(102, n), OUTSIDE);
        }
        due.isTrue("20: changes nothing", before.equals(Due.all(x)));
    }

    private static void most() {
        PlaitAndBreak x = new PlaitAndBreak();
        due.is("21: no crossing", x.most(1), NONE);
        due.is("21: no crossing", x.most(2), NONE);
        due.is("21: OUTSIDE", x.most(0), OUTSIDE);
        due.is("21: OUTSIDE", x.most(3), OUTSIDE);
        for (int n : WILD) {
            due.is("21: OUTSIDE", x.most(n), OUTSIDE);
        }
        PlaitAndBreak y = Due.drawn("N13");
        due.is("21: of like ones the least", y.most(2), 102);
        due.is("21: of like ones the least", y.most(1), 102);
        y.set(102, 1);
        due.is("21: a break is no crossing", y.most(2), 104);
        y.set(104, 3);
        due.is("21: turned over is a crossing", y.most(2), 104);
        y.set(104, 2);
        due.is("21: all are breaks", y.most(1), NONE);
        due.is("21: of two loops each break makes one", Due.drawn("N22").most(1), 102);
    }

    private static void one() {
        PlaitAndBreak x = new PlaitAndBreak();
        due.is("22: one loop", x.one(), 0);
        due.is("23: one loop", x.oneAt(0), NONE);
        due.is("23: below 0", x.oneAt(-1), NONE);
        x.make(3, 3, 0, 0, 0);
        due.is("22: three loops", x.one(), 2);
        due.is("23: first", x.oneAt(0), 102);
        due.is("23: second", x.oneAt(1), 104);
        due.is("23: no third", x.oneAt(2), NONE);
        for (int n : WILD) {
            due.is("23: oneAt(" + n + ")", x.oneAt(n), NONE);
        }
        PlaitAndBreak y = Due.drawn("N22V12V32H21H23");
        due.is("22: four parts", y.one(), NONE);
        due.is("23: four parts", y.oneAt(0), NONE);
        // Three loops in two parts: what ties two of them is not told.
        PlaitAndBreak z = Due.drawn("N32H41H43");
        due.is("22: two parts", z.about(9), 2);
        due.is("22: three loops", z.about(8), 3);
        due.is("22: two parts", z.one(), NONE);
        due.is("23: two parts", z.oneAt(0), NONE);
    }

    private static void same() {
        PlaitAndBreak x = Due.drawn("N22");
        for (int t = 0; t < 8; t++) {
            due.is("24: no break, t " + t, x.same(t), 1);
        }
        due.is("24: OUTSIDE", x.same(8), OUTSIDE);
        due.is("24: OUTSIDE", x.same(-1), OUTSIDE);
        for (int n : WILD) {
            due.is("24: OUTSIDE", x.same(n), OUTSIDE);
        }
        x.set(102, 3);
        for (int t = 0; t < 8; t++) {
            due.is("24: turned over does not count, t " + t, x.same(t), 1);
        }
        sames("N23", new int[] {1, 0, 1, 0, 1, 0, 1, 0});
        sames("N22H12", new int[] {1, 0, 0, 0, 1, 0, 0, 0});
        sames("N22H12H32", new int[] {1, 0, 1, 0, 1, 0, 1, 0});
        sames("N22H12H32V21V23", new int[] {1, 1, 1, 1, 1, 1, 1, 1});
        sames("N22H12H32H21H23", new int[] {1, 0, 1, 0, 1, 0, 1, 0});
        sames("N22H12H32H21V23", new int[] {1, 0, 0, 0, 0, 0, 1, 0});
        // 12 and 21 change places by what is mirrored, then turned to the left: 7.
        sames("N22H12V21", new int[] {1, 0, 0, 0, 0, 0, 0, 1});
        // 12 and 23: mirrored, then turned to the right: 5.
        sames("N22H12V23", new int[] {1, 0, 0, 0, 0, 1, 0, 0});
        sames("N22H12H21", new int[] {1, 0, 0, 0, 0, 0, 0, 0});
    }

    private static void sames(String text, int[] want) {
        PlaitAndBreak x = Due.drawn(text);
        for (int t = 0; t < 8; t++) {
            due.is("24: same(" + t + ") of " + text, x.same(t), want[t]);
        }
    }

    private static void slots() {
        PlaitAndBreak x = Due.drawn("N23H12V21O23");
        String first = Due.all(x);
        due.is("25: UNKNOWN", x.keep(2), UNKNOWN);
        due.is("25: UNKNOWN", x.keep(-1), UNKNOWN);
        due.is("26: UNKNOWN", x.again(2), UNKNOWN);
        due.is("26: UNKNOWN", x.again(-1), UNKNOWN);
        for (int n : WILD) {
            due.is("25: keep(" + n + ")", x.keep(n), UNKNOWN);
            due.is("26: again(" + n + ")", x.again(n), UNKNOWN);
        }
        due.is("26: none kept", x.again(0), STATE);
        due.is("25: keep", x.keep(0), 7);
        due.is("26: the other is empty", x.again(1), STATE);
        due.isTrue("26: refused changes nothing", first.equals(Due.all(x)));
        x.set(102, 2);
        due.is("25: what is kept stays", x.again(0), 7);
        due.isTrue("26: as it was", first.equals(Due.all(x)));
        x.make(6, 6, 1, 3, 3);
        String second = Due.all(x);
        due.is("25: keep", x.keep(1), 60);
        due.is("26: again", x.again(0), 7);
        due.isTrue("26: as it was", first.equals(Due.all(x)));
        x.set(104, 1);
        due.is("26: twice", x.again(0), 7);
        due.isTrue("26: twice as it was", first.equals(Due.all(x)));
        due.is("26: again(1)", x.again(1), 60);
        due.isTrue("26: as it was", second.equals(Due.all(x)));
        Due.type(x, "N11");
        due.is("25: over what was kept", x.keep(0), 60);
        x.make(1, 1, 0, 0, 0);
        due.is("26: the later one", x.again(0), 60);
        due.is("26: THE TEXT is not kept", x.about(12), 3);
    }
}
