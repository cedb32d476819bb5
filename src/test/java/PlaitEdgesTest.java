import java.math.BigInteger;

/** Terms part 1, MADE, and promises 1 to 9 at their boundaries: at each, just inside and just outside. */
public final class PlaitEdgesTest {
    private static final int UNKNOWN = -1, OUTSIDE = -2, STATE = -3, FULL = -4, NONE = -9;
    private static final String SIGNS = "0123456789ab";
    private static final String WHOLE = wholeText();
    private static final Due due = new Due();

    public static void main(String[] args) {
        firstPlait();
        allSizes();
        cellsOfAllSizes();
        pointsOfAllSizes();
        bytesOfWrite();
        roomOfWrite();
        wipes();
        nextSigns();
        pointsTwice();
        firstFaultCounts();
        beginningsOfTheWholeText();
        plaits();
        makeOutside();
        makeBelow();
        makeSeeds();
        sets();
        abouts();
        lastOf512Calls();
        due.end();
    }

    /** 72 bytes: 23 parts. */
    private static String wholeText() {
        StringBuilder text = new StringBuilder("N66");
        for (int point : Reference.innerPoints(6, 6)) {
            if (text.length() < 72) {
                text.append("HVO".charAt(point % 3)).append(SIGNS.charAt(point / 100)).append(SIGNS.charAt(point % 100));
            }
        }
        return text.toString();
    }

    private static PlaitAndBreak typed(String text) {
        PlaitAndBreak x = new PlaitAndBreak();
        Due.type(x, text);
        return x;
    }

    // "At first THE PLAIT is N11"; THE TEXT is empty, and neither SLOT is kept.
    private static void firstPlait() {
        PlaitAndBreak x = new PlaitAndBreak();
        due.isTrue("1: as N11", Look.at(Due.drawn("N11")).equals(Look.at(new PlaitAndBreak())));
        due.is("1: no text", x.fault(), 0);
        due.is("1: no text", x.plait(), STATE);
        due.is("1: no text", x.wipe(), 0);
        due.is("1: one square", x.about(2), 4);
        due.is("1: its last cell", x.loop(101), 0);
        due.is("1: no cell", x.loop(102), UNKNOWN);
        due.is("1: no inner point", x.point(101), UNKNOWN);
        PlaitAndBreak other = new PlaitAndBreak();
        other.make(2, 2, 0, 0, 0);
        due.is("1: objects are apart", x.about(2), 4);
    }

    // "A PLAIT of r by c SQUARES (1 to 6 each)", told as a TEXT and MADE.
    private static void allSizes() {
        for (int r = 0; r <= 7; r++) {
            for (int c = 0; c <= 7; c++) {
                boolean fits = r >= 1 && r <= 6 && c >= 1 && c <= 6;
                PlaitAndBreak x = typed("N" + r + c);
                int inner = r * (c - 1) + (r - 1) * c;
                due.is("4: N" + r + c, x.fault(), fits ? NONE : r < 1 || r > 6 ? 1 : 2);
                due.is("5: N" + r + c, x.plait(), fits ? inner : STATE);
                due.is("9: r of N" + r + c, x.about(0), fits ? r : 1);
                due.is("9: c of N" + r + c, x.about(1), fits ? c : 1);
                PlaitAndBreak y = new PlaitAndBreak();
                due.is("6: make(" + r + ", " + c + ")", y.make(r, c, 0, 0, 0), fits ? inner : OUTSIDE);
                due.is("9: cells", y.about(2), fits ? 4 * r * c : 4);
                due.is("9: inner points", y.about(3), fits ? inner : 0);
            }
        }
    }

    // "2 r ROWS of 2 c CELLS": each, and the next ones beyond.
    private static void cellsOfAllSizes() {
        for (int r = 1; r <= 6; r++) {
            for (int c = 1; c <= 6; c++) {
                PlaitAndBreak x = new PlaitAndBreak();
                x.make(6, 6, 0, 0, 0);
                x.make(r, c, 0, 0, 0);
                Reference want = Reference.made(r, c, 0, 0, 0);
                for (int row = 0; row <= 13; row++) {
                    for (int column = 0; column <= 13; column++) {
                        int cell = 100 * row + column;
                        due.is("10: loop(" + cell + ") of " + r + " by " + c, x.loop(cell), want.owner(cell));
                    }
                }
                due.is("10: before the first", x.loop(-1), UNKNOWN);
                due.is("10: before the first row", x.loop(-100), UNKNOWN);
                due.is("10: column 99", x.loop(99), UNKNOWN);
                due.is("10: column 99 of the last row", x.loop(200 * r - 1), UNKNOWN);
            }
        }
    }

    // "y 0 to 2 r, x 0 to 2 c, of which y and x together are odd"; "UNKNOWN: also a POINT of the rim".
    private static void pointsOfAllSizes() {
        for (int r = 1; r <= 6; r++) {
            for (int c = 1; c <= 6; c++) {
                PlaitAndBreak x = new PlaitAndBreak();
                x.make(6, 6, 0, 0, 10);
                x.make(r, c, 0, 10, 0);
                for (int y = 0; y <= 13; y++) {
                    for (int across = 0; across <= 13; across++) {
                        boolean inner = y > 0 && y < 2 * r && across > 0 && across < 2 * c && (y + across) % 2 == 1;
                        int point = 100 * y + across;
                        due.is("7: point(" + point + ") of " + r + " by " + c, x.point(point), inner ? 1 : UNKNOWN);
                        due.is("8: set(" + point + ", 2)", x.set(point, 2), inner ? 1 : UNKNOWN);
                    }
                }
                due.is("7: below 0", x.point(-102), UNKNOWN);
                due.is("7: x 99", x.point(199), UNKNOWN);
            }
        }
    }

    // "n bytes (1 to 8) of v, the lowest n, the highest of these first".
    private static void bytesOfWrite() {
        String text = "N22H12V2";
        long v = 0x4e32_3248_3132_5632L;
        for (int n = 1; n <= 8; n++) {
            PlaitAndBreak x = typed(text.substring(0, 8 - n));
            due.is("2: how long it is", x.write(n, v), 8);
            due.is("2: one byte more", x.write(1, 0x7f00_0000_0000_0031L), 9);
            due.is("2: " + n + " bytes", x.fault(), NONE);
            x.plait();
            due.is("2: " + n + " bytes", x.point(102), 1);
            due.is("2: " + n + " bytes", x.point(201), 2);
            PlaitAndBreak y = new PlaitAndBreak();
            due.is("2: the first " + n, y.write(n, 0), n);
            due.is("2: bytes of THE TEXT", y.about(12), n);
        }
        due.is("2: n 0", new PlaitAndBreak().write(0, v), OUTSIDE);
        due.is("2: n 9", new PlaitAndBreak().write(9, v), OUTSIDE);
        // The highest bit of a byte counts.
        PlaitAndBreak x = new PlaitAndBreak();
        x.write(3, 0xce_31_31L);
        due.is("2: byte 206 is not N", x.fault(), 0);
        x.wipe();
        x.write(3, 0x4e_31_b1L);
        due.is("2: byte 177 is not 1", x.fault(), 2);
        x.wipe();
        x.write(4, 0x4e_32_32_c8L);
        due.is("2: byte 200 is not H", x.fault(), 3);
    }

    // "FULL: it would be longer than 72 (nothing comes)": 72 is not too long.
    private static void roomOfWrite() {
        for (int n = 1; n <= 8; n++) {
            PlaitAndBreak x = typed(WHOLE.substring(0, 72 - n));
            due.is("2: to 72 by " + n, x.write(n, bytes(WHOLE.substring(72 - n))), 72);
            due.is("2: to 72 by " + n, x.fault(), NONE);
            for (int more = 1; more <= 8; more++) {
                due.is("2: behind 72", x.write(more, 0), FULL);
            }
            due.is("2: nothing came", x.about(12), 72);
            due.is("2: nothing came", x.fault(), NONE);
            PlaitAndBreak y = typed(WHOLE.substring(0, 73 - n));
            due.is("2: to 73 by " + n, y.write(n, 0), FULL);
            due.is("2: nothing came", y.about(12), 73 - n);
            Due.type(y, WHOLE.substring(73 - n));
            due.is("2: and then to 72", y.about(12), 72);
            due.is("2: and then to 72", y.fault(), NONE);
            due.is("2: which is a plait", y.plait(), 60);
        }
    }

    private static long bytes(String text) {
        long v = -1;
        for (int i = 0; i < text.length(); i++) {
            v = v << 8 | text.charAt(i);
        }
        return v;
    }

    // "THE TEXT is empty: how long it was": 0, 1, 72.
    private static void wipes() {
        int[] lengths = {0, 1, 2, 71, 72};
        for (int length : lengths) {
            PlaitAndBreak x = typed(WHOLE.substring(0, length));
            due.is("3: of " + length, x.wipe(), length);
            due.is("3: empty", x.about(12), 0);
            due.is("3: empty", x.fault(), 0);
            due.is("3: empty", x.plait(), STATE);
            due.is("3: empty twice", x.wipe(), 0);
            due.is("3: room again", x.write(8, bytes("N22O12V2")), 8);
            due.is("3: from the first byte on", x.fault(), 8);
        }
    }

    // Each byte behind a beginning: the told ones may stand there, no other.
    private static void next(String before, String may) {
        for (int sign = 0; sign < 256; sign++) {
            PlaitAndBreak x = typed(before);
            x.write(1, sign);
            int length = before.length() + 1;
            boolean fits = may.indexOf((char) sign) >= 0;
            int want = !fits ? before.length() : length % 3 == 0 ? NONE : length;
            due.is("4: byte " + sign + " behind " + before, x.fault(), want);
            if (want != NONE) {
                due.is("5: byte " + sign + " behind " + before, x.plait(), STATE);
            }
        }
    }

    // "N, r, c, then PARTS, each of a letter and an INNER POINT, y and x by one sign each (0 to 9, a is 10, b is 11)".
    private static void nextSigns() {
        next("", "N");
        next("N", "123456");
        next("N1", "123456");
        next("N6", "123456");
        next("N22", "HVO");
        next("N22H", "123");
        next("N22H1", "2");
        next("N22V2", "13");
        next("N22O3", "2");
        next("N66V", "123456789ab");
        next("N66V1", "2468a");
        next("N66V9", "2468a");
        next("N66Oa", "13579b");
        next("N66Hb", "2468a");
        next("N65Hb", "2468");
        next("N65Ha", "13579");
        next("N56H", "123456789");
        next("N56H8", "13579b");
        // One square high, or wide.
        next("N12", "HVO");
        next("N12H", "1");
        next("N12H1", "2");
        next("N16O", "1");
        next("N16O1", "2468a");
        next("N21", "HVO");
        next("N21V", "2");
        next("N21V2", "1");
        next("N61V", "2468a");
        next("N61Va", "1");
        // No INNER POINT at all.
        next("N11", "");
    }

    // "no POINT twice": of all letters, and from where on nothing can stand behind it.
    private static void pointsTwice() {
        for (String first : new String[] {"H", "V", "O"}) {
            for (String second : new String[] {"H", "V", "O"}) {
                next("N22" + first + "12" + second, "23");
                next("N22" + first + "21" + second, "123");
                next("N22" + first + "21" + second + "2", "3");
                next("N22" + first + "23H12" + second + "2", "1");
                next("N66" + first + "ba" + second + "b", "2468");
            }
        }
        next("N22H12", "HVO");
        next("N22H21V23", "HVO");
        next("N22H21V23O", "13");
        next("N22H12V21O23", "HVO");
        next("N22H12V21O23H", "3");
        next("N22H12V21O23H3", "2");
        next("N22H12V21O23H32", "");
        next("N12O12", "");
        next("N21V21", "");
        next("N13H12", "HVO");
        next("N13H12H", "1");
        next("N13H12H1", "4");
        next("N13H12H14", "");
        // Another row's point, told across, is another one.
        next("N33H34V4", "135");
        next("N33H34V43O3", "2");
    }

    private static void faultOf(String text, int want) {
        due.is("4: fault of " + text, typed(text).fault(), want);
    }

    // "the place (from 0 on) of the first byte by which THE TEXT can be no PLAIT, whatever came behind it".
    private static void firstFaultCounts() {
        faultOf("X99X99", 0);
        faultOf("N99X99", 1);
        faultOf("N19X99", 2);
        faultOf("N22X99", 3);
        faultOf("N22H99", 4);
        faultOf("N22H19", 5);
        faultOf("N22H12N22", 6);
        faultOf("N22H12H", 7);
        faultOf("N22H12HX", 7);
        faultOf(" N22", 0);
        faultOf("N 22", 1);
        faultOf("NN22", 1);
        faultOf("N22 ", 3);
        faultOf("N22N33", 3);
        // The last byte that there may be, and the last but one.
        faultOf(WHOLE.substring(0, 71) + "x", 71);
        faultOf(WHOLE.substring(0, 70) + "x" + WHOLE.substring(71), 70);
        faultOf(WHOLE.substring(0, 69) + "x" + WHOLE.substring(70), 69);
        // Before its end comes the fault.
        faultOf("N22H1H", 5);
        faultOf("X", 0);
        faultOf("NX", 1);
        faultOf("N2X", 2);
    }

    // "its length, if it is only not at its end; NONE: none".
    private static void beginningsOfTheWholeText() {
        due.is("4: the whole text", WHOLE.length(), 72);
        for (int length = 0; length <= 72; length++) {
            PlaitAndBreak x = typed(WHOLE.substring(0, length));
            boolean whole = length > 0 && length % 3 == 0;
            due.is("4: its first " + length, x.fault(), whole ? NONE : length);
            due.is("5: its first " + length, x.plait(), whole ? 60 : STATE);
            due.is("5: bytes of THE TEXT", x.about(12), length);
            due.is("9: crossings that are none any more", x.about(5) + x.about(6) + x.about(7), whole ? length / 3 - 1 : 0);
        }
    }

    // "THE TEXT (that stays as it is, as all else does) is THE PLAIT".
    private static void plaits() {
        PlaitAndBreak x = typed("N23H12V21O23");
        due.is("5: plait", x.plait(), 7);
        due.is("5: THE TEXT stays", x.fault(), NONE);
        due.is("5: SLOTS stay", x.again(0), STATE);
        due.is("5: plait twice", x.plait(), 7);
        due.is("5: point", x.point(102), 1);
        x.set(102, 0);
        x.set(104, 2);
        due.is("5: told anew", x.plait(), 7);
        due.is("5: what was set is gone", x.point(104), 0);
        due.is("5: what was told is there", x.point(102), 1);
        Due.type(x, "H");
        due.is("5: one byte more", x.plait(), STATE);
        due.is("5: one byte more", x.fault(), 13);
        Due.type(x, "25");
        due.is("5: two bytes more", x.plait(), 7);
        due.is("5: two bytes more", x.point(205), 1);
        // A greater one that breaks off leaves nothing behind.
        x.wipe();
        Due.type(x, "N66HbaVab");
        due.is("5: greater", x.fault(), NONE);
        due.is("5: fault() alone does nothing", x.about(3), 7);
        Due.type(x, "Obb");
        due.is("5: a fault at last", x.plait(), STATE);
        due.is("5: nothing of it", x.about(3), 7);
        due.is("5: nothing of it", x.point(1110), UNKNOWN);
        x.wipe();
        Due.type(x, "N11");
        due.is("5: no INNER POINT", x.plait(), 0);
        due.is("5: nothing of the one before", x.about(5) + x.about(6) + x.about(7), 0);
    }

    // "OUTSIDE: r, c (1 to 6), h, v (0 to 10, together no more than 10)".
    private static void makeOutside() {
        for (int h = -2; h <= 12; h++) {
            for (int v = -2; v <= 12; v++) {
                boolean fits = h >= 0 && h <= 10 && v >= 0 && v <= 10 && h + v <= 10;
                PlaitAndBreak x = new PlaitAndBreak();
                String call = "6: make(2, 3, 4, " + h + ", " + v + ")";
                due.is(call, x.make(2, 3, 4, h, v), fits ? 7 : OUTSIDE);
                due.is(call + " then", x.about(3), fits ? 7 : 0);
            }
        }
        // One number at its end, the other one there too or just beyond.
        int[][] sizes = {{1, 6, 5}, {6, 1, 5}, {6, 6, 60}, {1, 1, 0}, {0, 6, OUTSIDE}, {6, 0, OUTSIDE}, {7, 6, OUTSIDE},
            {6, 7, OUTSIDE}, {7, 1, OUTSIDE}, {1, 7, OUTSIDE}, {0, 0, OUTSIDE}, {-1, -1, OUTSIDE}};
        for (int[] size : sizes) {
            due.is("6: make(" + size[0] + ", " + size[1] + ")", new PlaitAndBreak().make(size[0], size[1], 0, 5, 5), size[2]);
        }
    }

    // "below h a LEVEL BREAK, else below h and v an UPRIGHT one, else a CROSSING": for all ten that may be left.
    private static void makeBelow() {
        boolean[] seen = new boolean[10];
        for (long seed = 0; seed < 60; seed++) {
            int left = leftBy(seed);
            if (seen[left]) {
                continue;
            }
            seen[left] = true;
            PlaitAndBreak x = new PlaitAndBreak();
            for (int h = 0; h <= 10; h++) {
                for (int v = 0; v + h <= 10; v++) {
                    x.make(1, 2, seed, h, v);
                    int want = left < h ? 1 : left < h + v ? 2 : 0;
                    due.is("6: " + left + " is left, h " + h + ", v " + v, x.point(102), want);
                }
            }
        }
        for (int left = 0; left < 10; left++) {
            due.isTrue("6: a seed that leaves " + left, seen[left]);
        }
    }

    private static int leftBy(long seed) {
        BigInteger all = BigInteger.ONE.shiftLeft(64);
        BigInteger x = BigInteger.valueOf(seed).multiply(new BigInteger("6364136223846793005"));
        x = x.add(new BigInteger("1442695040888963407")).mod(all);
        return x.shiftRight(33).mod(BigInteger.TEN).intValue();
    }

    // "(64 bits, wrapping)", "for each INNER POINT in order"; what stood there before is gone.
    private static void makeSeeds() {
        long[] seeds = {0, 1, -1, 2, Long.MIN_VALUE, Long.MIN_VALUE + 1, Long.MAX_VALUE, Long.MAX_VALUE - 1, 1L << 32,
            (1L << 33) - 1, 1L << 33, -(1L << 33), 1L << 62, 0xffff_ffffL};
        PlaitAndBreak x = new PlaitAndBreak();
        for (long seed : seeds) {
            x = Due.drawn("N66O12Hba");
            x.make(6, 6, seed, 3, 3);
            Reference want = Reference.made(6, 6, seed, 3, 3);
            for (int point : Reference.innerPoints(6, 6)) {
                due.is("6: seed " + seed + ", point(" + point + ")", x.point(point), want.kind(point));
            }
        }
        due.is("6: nothing is TURNED OVER", x.about(7), 0);
        String first = Due.all(x);
        x.make(6, 6, 0xffff_ffffL, 3, 3);
        due.isTrue("6: the same SEED makes the same", first.equals(Due.all(x)));
        // Worked out by hand: of seed -1 the first x is 13525302890751722018, its upper 31 bits are 1574552488: 8 is left.
        x.make(1, 2, -1, 8, 0);
        due.is("6: seed -1, 8 is not below 8", x.point(102), 0);
        x.make(1, 2, -1, 9, 0);
        due.is("6: seed -1, 8 is below 9", x.point(102), 1);
        x.make(1, 2, -1, 8, 1);
        due.is("6: seed -1, 8 is below 8 and 1", x.point(102), 2);
    }

    // "An INNER POINT becomes such (as point()): what it was": each from each; 0 to 3.
    private static void sets() {
        for (int from = 0; from <= 3; from++) {
            for (int to = -1; to <= 4; to++) {
                PlaitAndBreak x = new PlaitAndBreak();
                x.make(6, 6, 0, 0, 0);
                for (int point : new int[] {102, 1110, 111, 1011, 605}) {
                    boolean inner = (point / 100 + point % 100) % 2 == 1;
                    x.set(point, from);
                    int want = !inner ? UNKNOWN : to < 0 || to > 3 ? OUTSIDE : from;
                    due.is("8: set(" + point + ", " + to + ") from " + from, x.set(point, to), want);
                    due.is("8: then", x.point(point), !inner ? UNKNOWN : want == OUTSIDE ? from : to);
                }
            }
        }
        PlaitAndBreak x = Due.drawn("N22");
        x.set(102, 1);
        due.is("8: the others stay", x.about(4), 3);
        due.is("8: the loops follow", x.about(8), 1);
        x.set(102, 3);
        due.is("8: turned over", x.about(7), 1);
        due.is("8: the loops follow", x.about(8), 2);
    }

    // what 0 to 12; each at its least and at its most.
    private static void abouts() {
        PlaitAndBreak x = new PlaitAndBreak();
        due.is("9: about(-1)", x.about(-1), OUTSIDE);
        due.is("9: about(13)", x.about(13), OUTSIDE);
        due.is("9: about(12) at first", x.about(12), 0);
        x.make(6, 6, 0, 0, 0);
        int[] plain = {6, 6, 144, 60, 60, 0, 0, 0, 6, 1, 62, 60};
        for (int what = 0; what < plain.length; what++) {
            due.is("9: 6 by 6, about(" + what + ")", x.about(what), plain[what]);
        }
        for (int point : Reference.innerPoints(6, 6)) {
            x.set(point, 3);
        }
        int[] turned = {6, 6, 144, 60, 60, 0, 0, 60, 6, 1, 62, 60};
        for (int what = 0; what < turned.length; what++) {
            due.is("9: 6 by 6 turned over, about(" + what + ")", x.about(what), turned[what]);
        }
        x.make(6, 6, 0, 10, 0);
        int[] level = {6, 6, 144, 60, 0, 60, 0, 0, 6, 6, 7, 6};
        for (int what = 0; what < level.length; what++) {
            due.is("9: all level, about(" + what + ")", x.about(what), level[what]);
        }
        x.make(6, 6, 0, 0, 10);
        due.is("9: all upright", x.about(6), 60);
        due.is("9: all upright", x.about(5), 0);
        Due.type(x, WHOLE);
        due.is("9: about(12) at most", x.about(12), 72);
    }

    // "An object is used for at most 512 calls after it has been made": the last of them answers as all do.
    private static void lastOf512Calls() {
        PlaitAndBreak x = new PlaitAndBreak();
        x.make(6, 6, 0, 0, 0);
        for (int i = 0; i < 510; i++) {
            due.is("call " + (i + 2), x.set(1110, i % 4), i == 0 ? 0 : (i + 3) % 4);
        }
        due.is("call 512", x.point(1110), 1);
        PlaitAndBreak y = new PlaitAndBreak();
        for (int i = 0; i < 256; i++) {
            due.is("call " + (2 * i + 1), y.write(8, i), 8);
            due.is("call " + (2 * i + 2), y.wipe(), 8);
        }
        PlaitAndBreak z = new PlaitAndBreak();
        z.make(6, 6, 0, 0, 0);
        for (int i = 0; i < 511; i++) {
            due.is("call " + (i + 2), i % 2 == 0 ? z.keep(i % 4 / 2) : z.again(i % 4 / 2), 60);
        }
    }
}
