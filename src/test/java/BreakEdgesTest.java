/** Terms part 3 and promises 20 to 26 at their boundaries: at each, just inside and just outside. */
public final class BreakEdgesTest {
    private static final int UNKNOWN = -1, OUTSIDE = -2, STATE = -3, NONE = -9;
    private static final int MIN = Integer.MIN_VALUE;
    private static final int MAX = Integer.MAX_VALUE;
    private static final String RINGS = "N22V12V32H21H23";
    private static final Due due = new Due();

    public static void main(String[] args) {
        byOfEach();
        byAtItsEnds();
        mostOfLikeOnes();
        mostOfCrossingsAlone();
        mostOutside();
        oneOfNone();
        oneOfThoseToldFirst();
        oneAtMost();
        oneAtBeyond();
        sameOutside();
        sameOfOtherSizes();
        sameByEach();
        slotsAtTheirEnds();
        noneWasKept();
        slotsApart();
        keptAndGoneOnFrom();
        due.end();
    }

    private static void bys(String text, int point, int crossing, int level, int upright) {
        PlaitAndBreak x = Due.drawn(text);
        due.is("20: by(" + point + ", 0) of " + text, x.by(point, 0), crossing);
        due.is("20: by(" + point + ", 1) of " + text, x.by(point, 1), level);
        due.is("20: by(" + point + ", 2) of " + text, x.by(point, 2), upright);
        due.is("20: by(" + point + ", -1) of " + text, x.by(point, -1), OUTSIDE);
        due.is("20: by(" + point + ", 3) of " + text, x.by(point, 3), OUTSIDE);
    }

    // "BY a BREAK (or CROSSING) at an INNER POINT instead of what is there": of what is there all four.
    private static void byOfEach() {
        bys("N12", 102, 1, 1, 2);
        bys("N12O12", 102, 1, 1, 2);
        bys("N12H12", 102, 1, 1, 2);
        bys("N12V12", 102, 1, 1, 2);
        bys("N21", 201, 1, 2, 1);
        bys("N21H21", 201, 1, 2, 1);
        bys("N22", 102, 2, 1, 1);
        bys("N22", 302, 2, 1, 1);
        bys(RINGS, 102, 3, 3, 4);
        bys(RINGS, 201, 3, 4, 3);
        // It counts alone: nothing is left of one asked before.
        PlaitAndBreak x = Due.drawn("N13");
        due.is("20: the first", x.by(102, 2), 2);
        due.is("20: the second alone", x.by(104, 2), 2);
        x.set(102, 2);
        due.is("20: the second behind the first", x.by(104, 2), 3);
    }

    // The least and the greatest INNER POINT of the greatest PLAIT, and those that are none.
    private static void byAtItsEnds() {
        PlaitAndBreak x = new PlaitAndBreak();
        x.make(6, 6, 0, 0, 0);
        due.is("20: the least", x.by(102, 1), 5);
        due.is("20: the greatest", x.by(1110, 2), 5);
        int[] points = {1, 11, 100, 101, 112, 1100, 1111, 1112, 1201, 1211, 1212, 1310, -102, MIN, MAX};
        for (int point : points) {
            due.is("20: by(" + point + ", 1)", x.by(point, 1), UNKNOWN);
            due.is("20: by(" + point + ", 3)", x.by(point, 3), UNKNOWN);
        }
        int[] whats = {-1, 3, 4, MIN, MAX};
        for (int what : whats) {
            due.is("20: by(1110, " + what + ")", x.by(1110, what), OUTSIDE);
        }
        due.is("20: no INNER POINT", new PlaitAndBreak().by(102, 0), UNKNOWN);
    }

    // "of like ones the least": all alike, the last better, the first and the last alike.
    private static void mostOfLikeOnes() {
        PlaitAndBreak alike = new PlaitAndBreak();
        alike.make(6, 6, 0, 0, 0);
        due.is("21: all alike", alike.most(1), 102);
        due.is("21: all alike", alike.most(2), 102);
        // A row of squares is cut in two by an UPRIGHT one anywhere.
        PlaitAndBreak row = new PlaitAndBreak();
        row.make(1, 6, 0, 0, 0);
        due.is("21: a row", row.most(2), 102);
        due.is("21: a row", row.by(110, 2), 2);
        row.set(102, 1);
        due.is("21: its first is none", row.most(2), 104);
        for (int point = 104; point <= 108; point += 2) {
            row.set(point, 1);
        }
        due.is("21: its last alone", row.most(2), 110);
        due.is("21: its last alone", row.most(1), 110);
        // LEVEL ones cut a column: the greater count wins, though it comes later.
        PlaitAndBreak corner = Due.drawn("N23H12V21O23");
        due.is("21: a later one is better", corner.most(2), 104);
        due.is("21: a later one is better", corner.most(1), 203);
    }

    // "the CROSSING at which": BREAKS do not count, CROSSINGS that are TURNED OVER do; "NONE: there is no CROSSING".
    private static void mostOfCrossingsAlone() {
        PlaitAndBreak none = new PlaitAndBreak();
        due.is("21: no INNER POINT", none.most(1), NONE);
        due.is("21: no INNER POINT", none.most(2), NONE);
        for (String text : new String[] {"N12H12", "N12V12", RINGS, "N22H12H32H21H23"}) {
            due.is("21: BREAKS alone, " + text, Due.drawn(text).most(1), NONE);
            due.is("21: BREAKS alone, " + text, Due.drawn(text).most(2), NONE);
        }
        due.is("21: one CROSSING", Due.drawn("N12").most(1), 102);
        due.is("21: one TURNED OVER", Due.drawn("N12O12").most(1), 102);
        PlaitAndBreak x = Due.drawn("N22V12V32H21O23");
        due.is("21: one CROSSING left", x.most(1), 203);
        due.is("21: one CROSSING left", x.most(2), 203);
        x.set(203, 2);
        due.is("21: none left", x.most(1), NONE);
        x.set(203, 0);
        due.is("21: one again", x.most(1), 203);
    }

    private static void mostOutside() {
        PlaitAndBreak x = Due.drawn("N22");
        int[] whats = {-1, 0, 3, 4, MIN, MAX};
        for (int what : whats) {
            due.is("21: most(" + what + ")", x.most(what), OUTSIDE);
            due.is("21: most(" + what + "), no CROSSING", new PlaitAndBreak().most(what), OUTSIDE);
        }
        due.is("21: most(1)", x.most(1), 102);
        due.is("21: most(2)", x.most(2), 102);
    }

    private static void ones(String text, int... points) {
        PlaitAndBreak x = Due.drawn(text);
        due.is("22: one() of " + text, x.one(), points.length);
        for (int i = 0; i < points.length; i++) {
            due.is("23: oneAt(" + i + ") of " + text, x.oneAt(i), points[i]);
        }
        due.is("23: behind the last of " + text, x.oneAt(points.length), NONE);
        due.is("23: before the first of " + text, x.oneAt(-1), NONE);
    }

    private static void oneCanNotBe(String text) {
        PlaitAndBreak x = Due.drawn(text);
        due.is("22: one() of " + text, x.one(), NONE);
        for (int i = -1; i <= 4; i++) {
            due.is("23: oneAt(" + i + ") of " + text, x.oneAt(i), NONE);
        }
    }

    // "NONE: it can not be so": no CROSSING, or PARTS.
    private static void oneOfNone() {
        oneCanNotBe("N12V12");
        oneCanNotBe("N21H21");
        oneCanNotBe(RINGS);
        oneCanNotBe("N22O12H21H23");
        oneCanNotBe("N32H41H43");
        // One LOOP: none is needed, with CROSSINGS and without.
        ones("N11");
        ones("N12");
        ones("N12H12");
        ones("N13");
        ones("N23");
    }

    // "the fewest", and "of as few those told first (the least POINT, then the next one)".
    private static void oneOfThoseToldFirst() {
        ones("N22", 102);
        ones("N22O12", 102);
        ones("N22H12H32", 201);
        ones("N22H12H32H21");
        ones("N33", 102, 104);
        // At the least CROSSINGS a LOOP crosses itself: that joins nothing.
        ones("N32V21H23", 302);
        ones("N33V21", 104);
        ones("N33H12H14H23H25H32H34H45H52", 401);
        // The second CROSSING joins what the first one has joined.
        ones("N32V23H32V43", 102, 401);
        ones("N33H14H52", 102, 203);
        ones("N33H14H25H34H41H52H54", 102, 403);
    }

    private static void oneAtMost() {
        PlaitAndBreak x = new PlaitAndBreak();
        x.make(6, 6, 0, 0, 0);
        due.is("22: six LOOPS", x.one(), 5);
        for (int i = 0; i < 5; i++) {
            due.is("23: oneAt(" + i + ")", x.oneAt(i), 102 + 2 * i);
        }
        due.is("23: no sixth", x.oneAt(5), NONE);
        for (int i = 0; i < 5; i++) {
            x.set(102 + 2 * i, 2 - i % 2);
            due.is("22: of those left", x.one(), 4 - i);
            due.is("23: the next one", x.oneAt(0), i < 4 ? 104 + 2 * i : NONE);
        }
        due.is("9: one LOOP", x.about(8), 1);
    }

    // "The i-th of these (from 0); NONE: there is none such".
    private static void oneAtBeyond() {
        PlaitAndBreak x = Due.drawn("N33");
        int[] none = {-1, -2, 2, 3, 35, 36, 37, 60, 1000, MIN, MAX};
        for (int i : none) {
            due.is("23: oneAt(" + i + ")", x.oneAt(i), NONE);
        }
        due.is("23: oneAt(0)", x.oneAt(0), 102);
        due.is("23: oneAt(1)", x.oneAt(1), 104);
        due.is("23: what was asked before does not count", x.oneAt(0), 102);
        // Those of a PLAIT before are none any more.
        x.make(2, 2, 0, 0, 0);
        due.is("23: the first", x.oneAt(0), 102);
        due.is("23: no second", x.oneAt(1), NONE);
    }

    // "t (0 to 7)".
    private static void sameOutside() {
        for (String text : new String[] {"N11", "N22", "N23H12"}) {
            PlaitAndBreak x = Due.drawn(text);
            int[] ts = {-1, -4, -8, 8, 9, 12, MIN, MAX};
            for (int t : ts) {
                due.is("24: same(" + t + ") of " + text, x.same(t), OUTSIDE);
            }
            due.is("24: same(0) of " + text, x.same(0), 1);
        }
        due.is("24: same(7)", Due.drawn("N11").same(7), 1);
        due.is("24: same(7)", Due.drawn("N22H12").same(7), 0);
    }

    private static void sames(String text, String want) {
        PlaitAndBreak x = Due.drawn(text);
        for (int t = 0; t < 8; t++) {
            due.is("24: same(" + t + ") of " + text, x.same(t), want.charAt(t) - '0');
        }
    }

    // "if r, c .. are then as they are": no odd number of quarters, if r and c are not alike.
    private static void sameOfOtherSizes() {
        for (int r = 1; r <= 6; r++) {
            for (int c = 1; c <= 6; c++) {
                sames("N" + r + c, r == c ? "11111111" : "10101010");
            }
        }
        sames("N12H12", "10101010");
        sames("N12V12", "10101010");
        sames("N13V12", "10000010");
        sames("N13V12V14", "10101010");
        sames("N13V12H14", "10000010");
        sames("N31H21", "10001000");
        sames("N23H12", "10000000");
        sames("N23V21V25", "10101010");
        sames("N23H12H14H32H34", "10101010");
        sames("N23H12H34", "10100000");
        sames("N23H12H14", "10001000");
        sames("N23H12H32", "10000010");
    }

    // "as many quarters to the right as t leaves by four; 4 to 7 mirrored left to right first"; a quarter makes LEVEL ones
    // UPRIGHT. "(TURNED OVER does not count)".
    private static void sameByEach() {
        sames("N22H12", "10001000");
        sames("N22V12", "10001000");
        sames("N22V21", "10000010");
        sames("N22H12H32", "10101010");
        sames("N22H12V32", "10001000");
        sames("N22H12V23", "10000100");
        sames("N22H12H23", "10000000");
        sames("N22H12V21", "10000001");
        sames("N22H12V21V23H32", "11111111");
        sames("N22H12H21H23H32", "10101010");
        sames("N22O12", "11111111");
        sames("N22H12O21", "10001000");
        sames("N22H12O32", "10001000");
        sames("N33H23V34H43V32", "11111111");
        sames("N33H23H43V32V34O12", "11111111");
        // A wheel that is the same when turned, but not when mirrored.
        sames("N33H12V25H54V41", "11110000");
        sames("N33H12H14V25V45H52H54V21V41", "11111111");
        sames("N33H12H54", "10100000");
        sames("N33H12H14", "10001000");
        sames("N33H12H52", "10000010");
    }

    // "SLOTS 0 to 1".
    private static void slotsAtTheirEnds() {
        PlaitAndBreak x = Due.drawn("N23H12");
        int[] none = {-1, 2, 3, -2, MIN, MAX};
        for (int slot : none) {
            due.is("25: keep(" + slot + ")", x.keep(slot), UNKNOWN);
            due.is("26: again(" + slot + ")", x.again(slot), UNKNOWN);
        }
        due.is("25: keep(0)", x.keep(0), 7);
        due.is("25: keep(1)", x.keep(1), 7);
        due.is("26: again(0)", x.again(0), 7);
        due.is("26: again(1)", x.again(1), 7);
        for (int slot : none) {
            due.is("26: again(" + slot + "), all kept", x.again(slot), UNKNOWN);
        }
    }

    // "STATE: none was kept": in this one, whatever the other one keeps, and as long as none is.
    private static void noneWasKept() {
        for (int slot = 0; slot <= 1; slot++) {
            PlaitAndBreak x = Due.drawn("N22H12");
            due.is("26: none kept", x.again(slot), STATE);
            due.is("25: the other one", x.keep(1 - slot), 4);
            due.is("26: none kept here", x.again(slot), STATE);
            due.is("8: THE PLAIT stays", x.point(102), 1);
            due.is("26: the other one", x.again(1 - slot), 4);
            due.is("25: now here", x.keep(slot), 4);
            due.is("26: now here", x.again(slot), 4);
        }
        // The least PLAIT kept is not none: no INNER POINT.
        PlaitAndBreak least = new PlaitAndBreak();
        due.is("25: N11", least.keep(0), 0);
        least.make(6, 6, 0, 0, 0);
        due.is("26: N11", least.again(0), 0);
        due.is("26: N11", least.about(2), 4);
        due.is("26: N11", least.loop(102), UNKNOWN);
    }

    private static void slotsApart() {
        PlaitAndBreak x = Due.drawn("N22H12V21O23");
        x.keep(0);
        String first = Due.all(x);
        x.make(6, 6, 7, 3, 3);
        due.is("25: the greatest", x.keep(1), 60);
        String second = Due.all(x);
        for (int i = 0; i < 3; i++) {
            due.is("26: again(0)", x.again(0), 4);
            due.isTrue("26: as it was", first.equals(Due.all(x)));
            x.set(102, 2);
            due.is("26: again(1)", x.again(1), 60);
            due.isTrue("26: as it was", second.equals(Due.all(x)));
            x.set(1110, (x.point(1110) + 1) % 3);
        }
    }

    // "kept and gone on from": what is set, made, told later does not change what is kept; a later keep does.
    private static void keptAndGoneOnFrom() {
        PlaitAndBreak x = Due.drawn("N22O12");
        x.keep(0);
        x.set(102, 1);
        due.is("25: set later", x.again(0), 4);
        due.is("25: set later", x.point(102), 3);
        x.make(1, 1, 0, 0, 0);
        due.is("25: made later", x.again(0), 4);
        Due.type(x, "N22V12");
        due.is("25: THE TEXT is not kept", x.again(0), 4);
        due.is("25: THE TEXT stays", x.about(12), 6);
        x.plait();
        due.is("25: told later", x.again(0), 4);
        due.is("25: told later", x.point(102), 3);
        due.is("26: gone on from", x.set(201, 2), 0);
        due.is("26: the loops are its own", x.about(8), 1);
        due.is("25: kept over", x.keep(0), 4);
        x.make(3, 3, 0, 0, 0);
        due.is("26: the later one", x.again(0), 4);
        due.is("26: the later one", x.point(201), 2);
        due.is("26: its loops", x.about(8), 1);
        due.is("26: its CROSSINGS", x.about(4), 3);
        due.is("26: what is TURNED OVER", x.about(7), 1);
        due.is("3: THE TEXT stays", x.wipe(), 6);
    }
}
