import java.util.Arrays;

/**
 * Strands drawn slantwise in a grid, that bounce at its rim and at breaks.
 * Words in capitals are those of ../shared/DOC.md, which says what each call promises.
 */
public final class PlaitAndBreak {
    public static final int UNKNOWN = -1, OUTSIDE = -2, STATE = -3, FULL = -4, NONE = -9;

    private static final int MOST_SQUARES = 6;
    private static final int MOST_ROWS = 2 * MOST_SQUARES;
    private static final int MOST_CELLS = MOST_ROWS * MOST_ROWS;
    private static final int MOST_INNER = 60;
    // A LOOP turns back at least twice across and twice up and down, so it is at least four CELLS long.
    private static final int MOST_LOOPS = MOST_CELLS / 4;
    private static final int MOST_ARCS = MOST_INNER + MOST_LOOPS;
    private static final int MOST_STEPS = 9999;
    private static final int MOST_BYTES = 72;
    private static final int SLOTS = 2;
    // WRITHE and LINKED may be below 0, where the refusals are.
    private static final int LIFT = 1000;

    private static final int CROSSING = 0;
    private static final int LEVEL = 1;
    private static final int UPRIGHT = 2;
    private static final int TURNED_OVER = 3;

    private static final long SEED_FACTOR = 6364136223846793005L;
    private static final long SEED_ADDEND = 1442695040888963407L;

    private final Script script = new Script();
    private final Plait drawn = new Plait();
    private final Loops loops = new Loops();
    private final Crossings crossings = new Crossings();
    private final Colouring colouring = new Colouring();
    private final Plait draft = new Plait();
    private final Plait trial = new Plait();
    private final Loops trialLoops = new Loops();
    private final Plait[] kept = new Plait[SLOTS];

    public PlaitAndBreak() {
        drawn.spread(1, 1);
        redraw();
    }

    // ---- plaits

    public int write(int n, long v) {
        if (n < 1 || n > 8) {
            return OUTSIDE;
        }
        if (!script.hasRoomFor(n)) {
            return FULL;
        }
        script.append(n, v);
        return script.length;
    }

    public int wipe() {
        int before = script.length;
        script.length = 0;
        return before;
    }

    public int fault() {
        return script.readInto(draft);
    }

    public int plait() {
        if (script.readInto(draft) != NONE) {
            return STATE;
        }
        drawn.become(draft);
        redraw();
        return drawn.inner;
    }

    public int make(int r, int c, long seed, int h, int v) {
        if (!isSquares(r) || !isSquares(c)) {
            return OUTSIDE;
        }
        if (h < 0 || h > 10 || v < 0 || v > 10 || h + v > 10) {
            return OUTSIDE;
        }
        drawn.spread(r, c);
        drawn.sow(seed, h, v);
        redraw();
        return drawn.inner;
    }

    public int point(int point) {
        int number = drawn.numberOf(point);
        return number < 0 ? UNKNOWN : drawn.kindOf(number);
    }

    public int set(int point, int what) {
        int number = drawn.numberOf(point);
        if (number < 0) {
            return UNKNOWN;
        }
        if (what < CROSSING || what > TURNED_OVER) {
            return OUTSIDE;
        }
        int before = drawn.kindOf(number);
        drawn.put(number, what);
        redraw();
        return before;
    }

    public int about(int what) {
        switch (what) {
            case 0: return drawn.down;
            case 1: return drawn.across;
            case 2: return 4 * drawn.down * drawn.across;
            case 3: return drawn.inner;
            case 4: return drawn.countCrossings();
            case 5: return drawn.countKind(LEVEL);
            case 6: return drawn.countKind(UPRIGHT);
            case 7: return drawn.countKind(TURNED_OVER);
            case 8: return loops.count;
            case 9: return parts();
            case 10: return drawn.countCrossings() + 1 + parts();
            case 11: return crossings.arcs;
            case 12: return script.length;
            default: return OUTSIDE;
        }
    }

    // ---- loops

    public int loop(int cell) {
        int owner = loops.ownerOf(cell);
        return owner < 0 ? UNKNOWN : owner;
    }

    public int along(int loop, int what) {
        if (!loops.has(loop)) {
            return UNKNOWN;
        }
        switch (what) {
            case 0: return loops.cellAt(loops.firstStep(loop));
            case 1: return loops.lengthOf(loop);
            case 2: return crossings.countBends(loops, loop);
            case 3: return loops.lengthOf(loop) - crossings.countBends(loops, loop);
            case 4: return crossings.countShared(loops, loop, loop);
            case 5: return crossings.countUneven(loops, loop);
            default: return OUTSIDE;
        }
    }

    public int step(int loop, int k) {
        if (!loops.has(loop)) {
            return UNKNOWN;
        }
        if (k < 0 || k > MOST_STEPS) {
            return OUTSIDE;
        }
        return loops.cellAt(loops.stepBehind(loop, k));
    }

    public int end(int loop, int k) {
        if (!loops.has(loop)) {
            return UNKNOWN;
        }
        if (k < 0 || k > MOST_STEPS) {
            return OUTSIDE;
        }
        return loops.endAt(loops.stepBehind(loop, k));
    }

    public int between(int loop, int other) {
        if (!loops.has(loop) || !loops.has(other)) {
            return UNKNOWN;
        }
        return crossings.countShared(loops, loop, other);
    }

    public int which(int point, boolean over) {
        int number = drawn.numberOf(point);
        if (number < 0) {
            return UNKNOWN;
        }
        if (!drawn.isCrossing(number)) {
            return STATE;
        }
        return over ? crossings.loopOver(loops, number) : crossings.loopUnder(loops, number);
    }

    public int sign(int point) {
        int number = drawn.numberOf(point);
        if (number < 0) {
            return UNKNOWN;
        }
        if (!drawn.isCrossing(number)) {
            return STATE;
        }
        return crossings.signAt(loops, number);
    }

    public int writhe() {
        return LIFT + crossings.sumSigns(loops);
    }

    public int linked(int loop, int other) {
        if (!loops.has(loop) || !loops.has(other)) {
            return UNKNOWN;
        }
        if (loop == other) {
            return STATE;
        }
        return LIFT + crossings.sumSharedSigns(loops, loop, other) / 2;
    }

    public int colours(int p) {
        if (p != 3 && p != 5 && p != 7) {
            return OUTSIDE;
        }
        return colouring.countFree(loops, crossings, p);
    }

    // ---- breaks

    public int by(int point, int what) {
        int number = drawn.numberOf(point);
        if (number < 0) {
            return UNKNOWN;
        }
        if (what < CROSSING || what > UPRIGHT) {
            return OUTSIDE;
        }
        return countLoopsBy(number, what);
    }

    public int most(int what) {
        if (what != LEVEL && what != UPRIGHT) {
            return OUTSIDE;
        }
        int best = NONE;
        int mostLoops = 0;
        for (int number = 0; number < drawn.inner; number++) {
            if (drawn.isCrossing(number)) {
                int count = countLoopsBy(number, what);
                if (count > mostLoops) {
                    mostLoops = count;
                    best = drawn.pointOf(number);
                }
            }
        }
        return best;
    }

    // A BREAK joins at most two LOOPS to one, and only at a CROSSING of the two (there either kind does);
    // so the fewest are the CROSSINGS that tie all LOOPS together, one for each LOOP but the first.
    public int one() {
        return parts() == 1 ? crossings.ties : NONE;
    }

    public int oneAt(int i) {
        if (parts() != 1 || i < 0 || i >= crossings.ties) {
            return NONE;
        }
        return drawn.pointOf(crossings.tieAt(i));
    }

    public int same(int t) {
        if (t < 0 || t > 7) {
            return OUTSIDE;
        }
        return drawn.isSameTurned(t % 4, t >= 4) ? 1 : 0;
    }

    // ---- slots

    public int keep(int slot) {
        if (slot < 0 || slot >= SLOTS) {
            return UNKNOWN;
        }
        Plait copy = kept[slot];
        if (copy == null) {
            copy = new Plait();
            kept[slot] = copy;
        }
        copy.become(drawn);
        return drawn.inner;
    }

    public int again(int slot) {
        if (slot < 0 || slot >= SLOTS) {
            return UNKNOWN;
        }
        Plait copy = kept[slot];
        if (copy == null) {
            return STATE;
        }
        drawn.become(copy);
        redraw();
        return drawn.inner;
    }

    private void redraw() {
        loops.follow(drawn);
        crossings.survey(drawn, loops);
    }

    private int parts() {
        return loops.count - crossings.ties;
    }

    private int countLoopsBy(int number, int what) {
        trial.become(drawn);
        trial.put(number, what);
        trialLoops.follow(trial);
        return trialLoops.count;
    }

    private static boolean isSquares(int n) {
        return n >= 1 && n <= MOST_SQUARES;
    }

    private static boolean isIn(int[] row, int index) {
        return index >= 0 && index < row.length;
    }

    private static int at(int[] row, int index) {
        return index >= 0 && index < row.length ? row[index] : NONE;
    }

    /** THE TEXT. */
    private static final class Script {
        private int length;
        private final int[] signs = new int[MOST_BYTES];
        // What has been read so far of the part that is being read.
        private int r;
        private int kind;
        private int y;

        private boolean hasRoomFor(int n) {
            return length + n <= MOST_BYTES;
        }

        private void append(int n, long v) {
            for (int i = n - 1; i >= 0 && length < MOST_BYTES; i--) {
                signs[length] = (int) (v >>> (8 * i)) & 0xff;
                length++;
            }
        }

        /** The FAULT; where there is none, the PLAIT is in the draft. */
        private int readInto(Plait draft) {
            for (int place = 0; place < length && place < MOST_BYTES; place++) {
                boolean fits = place < 3 ? readHead(draft, place, signs[place]) : readPart(draft, place, signs[place]);
                if (!fits) {
                    return place;
                }
            }
            boolean whole = length > 0 && length % 3 == 0;
            return whole ? NONE : length;
        }

        private boolean readHead(Plait draft, int place, int sign) {
            if (place == 0) {
                return sign == 'N';
            }
            int squares = digit(sign);
            if (!isSquares(squares)) {
                return false;
            }
            if (place == 1) {
                r = squares;
            } else {
                draft.spread(r, squares);
            }
            return true;
        }

        // In the draft the POINTS told so far are those that are no plain CROSSINGS.
        private boolean readPart(Plait draft, int place, int sign) {
            if (place % 3 == 0) {
                kind = kindBy(sign);
                return kind != NONE && draft.countKind(CROSSING) > 0;
            }
            if (place % 3 == 1) {
                y = digit(sign);
                return draft.hasPlainInRow(y);
            }
            int number = draft.numberAt(y, digit(sign));
            if (number < 0 || draft.kindOf(number) != CROSSING) {
                return false;
            }
            draft.put(number, kind);
            return true;
        }

        private static int kindBy(int sign) {
            switch (sign) {
                case 'H': return LEVEL;
                case 'V': return UPRIGHT;
                case 'O': return TURNED_OVER;
                default: return NONE;
            }
        }

        private static int digit(int sign) {
            if (sign >= '0' && sign <= '9') {
                return sign - '0';
            }
            return sign == 'a' ? 10 : sign == 'b' ? 11 : NONE;
        }
    }

    /** A PLAIT; its INNER POINTS are numbered from 0 on, in the order of the POINTS. */
    private static final class Plait {
        private static final int SPAN = MOST_ROWS + 1;

        private int down;
        private int across;
        private int inner;
        private final int[] points = new int[MOST_INNER];
        private final int[] kinds = new int[MOST_INNER];
        private final int[] numbers = new int[SPAN * SPAN];

        /** It becomes r by c SQUARES without BREAKS. */
        private void spread(int r, int c) {
            if (!isSquares(r) || !isSquares(c)) {
                return;
            }
            down = r;
            across = c;
            inner = 0;
            Arrays.fill(kinds, CROSSING);
            Arrays.fill(numbers, NONE);
            for (int y = 1; y < 2 * r; y++) {
                // y and x together are odd.
                for (int x = 1 + y % 2; x < 2 * c && inner < MOST_INNER; x += 2) {
                    numbers[y * SPAN + x] = inner;
                    points[inner] = 100 * y + x;
                    inner++;
                }
            }
        }

        private void become(Plait other) {
            down = other.down;
            across = other.across;
            inner = other.inner;
            System.arraycopy(other.points, 0, points, 0, MOST_INNER);
            System.arraycopy(other.kinds, 0, kinds, 0, MOST_INNER);
            System.arraycopy(other.numbers, 0, numbers, 0, SPAN * SPAN);
        }

        private void sow(long seed, int h, int v) {
            long x = seed;
            for (int number = 0; number < inner && number < MOST_INNER; number++) {
                x = x * SEED_FACTOR + SEED_ADDEND;
                long left = (x >>> 33) % 10;
                kinds[number] = left < h ? LEVEL : left < h + v ? UPRIGHT : CROSSING;
            }
        }

        private boolean hasCell(int row, int column) {
            return row >= 0 && row < 2 * down && column >= 0 && column < 2 * across;
        }

        private int numberAt(int y, int x) {
            boolean told = y >= 0 && y < SPAN && x >= 0 && x < SPAN;
            return told ? numbers[y * SPAN + x] : NONE;
        }

        private int numberOf(int point) {
            return point < 0 ? NONE : numberAt(point / 100, point % 100);
        }

        private int pointOf(int number) {
            return at(points, number);
        }

        private int kindOf(int number) {
            return at(kinds, number);
        }

        private boolean isCrossing(int number) {
            int kind = kindOf(number);
            return kind == CROSSING || kind == TURNED_OVER;
        }

        private void put(int number, int kind) {
            if (isIn(kinds, number)) {
                kinds[number] = kind;
            }
        }

        /** What STRANDS do at a POINT; the rim makes them bounce as BREAKS do. */
        private int kindAt(int y, int x) {
            int number = numberAt(y, x);
            if (number >= 0) {
                return kindOf(number);
            }
            return y == 0 || y == 2 * down ? LEVEL : UPRIGHT;
        }

        private boolean hasPlainInRow(int y) {
            for (int x = 0; x < SPAN; x++) {
                int number = numberAt(y, x);
                if (number >= 0 && kindOf(number) == CROSSING) {
                    return true;
                }
            }
            return false;
        }

        private int countKind(int kind) {
            int count = 0;
            for (int number = 0; number < inner; number++) {
                if (kindOf(number) == kind) {
                    count++;
                }
            }
            return count;
        }

        private int countCrossings() {
            return countKind(CROSSING) + countKind(TURNED_OVER);
        }

        private boolean isSameTurned(int quarters, boolean mirrored) {
            if (quarters % 2 == 1 && down != across) {
                return false;
            }
            for (int number = 0; number < inner; number++) {
                int there = numberTurned(number, quarters, mirrored);
                if (breakOf(there) != breakTurned(breakOf(number), quarters)) {
                    return false;
                }
            }
            return true;
        }

        private int numberTurned(int number, int quarters, boolean mirrored) {
            int height = 2 * down;
            int width = 2 * across;
            int y = pointOf(number) / 100;
            int x = pointOf(number) % 100;
            if (mirrored) {
                x = width - x;
            }
            for (int i = 0; i < quarters; i++) {
                int fromTop = y;
                y = x;
                x = height - fromTop;
                int upright = height;
                height = width;
                width = upright;
            }
            return numberAt(y, x);
        }

        private int breakOf(int number) {
            return isCrossing(number) ? CROSSING : kindOf(number);
        }

        private static int breakTurned(int kind, int quarters) {
            if (quarters % 2 == 0 || kind == CROSSING) {
                return kind;
            }
            return kind == LEVEL ? UPRIGHT : LEVEL;
        }
    }

    /** The LOOPS, each from its least CELL on, one behind the other in one row of steps. */
    private static final class Loops {
        private int count;
        private int steps;
        private final int[] owners = new int[MOST_CELLS];
        private final int[] firsts = new int[MOST_LOOPS + 1];
        private final int[] ownersBySteps = new int[MOST_CELLS];
        private final int[] cells = new int[MOST_CELLS];
        private final int[] ends = new int[MOST_CELLS];
        private final int[] rightward = new int[MOST_CELLS];
        private final int[] downward = new int[MOST_CELLS];

        private void follow(Plait plait) {
            count = 0;
            steps = 0;
            Arrays.fill(owners, NONE);
            for (int row = 0; row < 2 * plait.down; row++) {
                for (int column = 0; column < 2 * plait.across; column++) {
                    if (isFree(plait, row, column) && count < MOST_LOOPS) {
                        goRound(plait, row, column);
                        count++;
                        firsts[count] = steps;
                    }
                }
            }
        }

        private boolean isFree(Plait plait, int row, int column) {
            return plait.hasCell(row, column) && owners[row * MOST_ROWS + column] < 0;
        }

        private void goRound(Plait plait, int row, int column) {
            int down = 1;
            // In CELLS whose row and column together are even the STRAND rises to the right.
            int right = (row + column) % 2 == 0 ? -1 : 1;
            while (steps < MOST_CELLS && isFree(plait, row, column)) {
                int y = down > 0 ? row + 1 : row;
                int x = right > 0 ? column + 1 : column;
                owners[row * MOST_ROWS + column] = count;
                ownersBySteps[steps] = count;
                cells[steps] = 100 * row + column;
                ends[steps] = 100 * y + x;
                rightward[steps] = right;
                downward[steps] = down;
                steps++;
                int kind = plait.kindAt(y, x);
                row = kind == LEVEL ? row : row + down;
                column = kind == UPRIGHT ? column : column + right;
                down = kind == LEVEL ? -down : down;
                right = kind == UPRIGHT ? -right : right;
            }
        }

        private boolean has(int loop) {
            return loop >= 0 && loop < count;
        }

        private int ownerOf(int cell) {
            int row = cell / 100;
            int column = cell % 100;
            boolean told = cell >= 0 && row < MOST_ROWS && column < MOST_ROWS;
            return told ? owners[row * MOST_ROWS + column] : NONE;
        }

        private int ownerAt(int step) {
            return at(ownersBySteps, step);
        }

        private int cellAt(int step) {
            return at(cells, step);
        }

        private int endAt(int step) {
            return at(ends, step);
        }

        private int rightAt(int step) {
            return at(rightward, step);
        }

        private int downAt(int step) {
            return at(downward, step);
        }

        private int firstStep(int loop) {
            return isIn(firsts, loop) ? firsts[loop] : steps;
        }

        private int lengthOf(int loop) {
            return firstStep(loop + 1) - firstStep(loop);
        }

        private int stepBehind(int loop, int k) {
            int length = lengthOf(loop);
            return length < 1 ? NONE : firstStep(loop) + k % length;
        }

        private int stepAfter(int step) {
            int loop = ownerAt(step);
            return step + 1 < firstStep(loop + 1) ? step + 1 : firstStep(loop);
        }
    }

    /** Who is over and who is under at the CROSSINGS, the ARCS, and the ties: CROSSINGS by which LOOPS hang together. */
    private static final class Crossings {
        private static final int BEND = 0;
        private static final int OVER = 1;
        private static final int UNDER = 2;

        private int arcs;
        private int ties;
        // By steps: how the LOOP goes on behind it, and in which ARC it is.
        private final int[] passes = new int[MOST_CELLS];
        private final int[] arcsBySteps = new int[MOST_CELLS];
        // By numbers of INNER POINTS: the steps that end there; none at a BREAK.
        private final int[] overs = new int[MOST_INNER];
        private final int[] unders = new int[MOST_INNER];
        private final int[] tied = new int[MOST_LOOPS];
        private final int[] groups = new int[MOST_LOOPS];

        private void survey(Plait plait, Loops loops) {
            Arrays.fill(overs, NONE);
            Arrays.fill(unders, NONE);
            for (int step = 0; step < loops.steps && step < MOST_CELLS; step++) {
                passes[step] = passAt(plait, loops, step);
            }
            arcs = 0;
            for (int loop = 0; loop < loops.count; loop++) {
                numberArcs(loops, loop);
            }
            tie(loops);
        }

        private int passAt(Plait plait, Loops loops, int step) {
            int point = loops.endAt(step);
            int number = plait.numberOf(point);
            if (number < 0 || number >= MOST_INNER || !plait.isCrossing(number)) {
                return BEND;
            }
            boolean falls = loops.rightAt(step) == loops.downAt(step);
            boolean oddRow = point / 100 % 2 == 1;
            boolean fallingIsOver = oddRow != (plait.kindOf(number) == TURNED_OVER);
            if (falls == fallingIsOver) {
                overs[number] = step;
                return OVER;
            }
            unders[number] = step;
            return UNDER;
        }

        private void numberArcs(Loops loops, int loop) {
            int until = loops.firstStep(loop + 1);
            int all = countPasses(loops, loop, UNDER);
            int seen = 0;
            for (int step = loops.firstStep(loop); step < until && isIn(passes, step); step++) {
                // Behind its last time under it is again in the ARC in which it began.
                arcsBySteps[step] = arcs + (seen < all ? seen : 0);
                if (passes[step] == UNDER) {
                    seen++;
                }
            }
            arcs += Math.max(all, 1);
        }

        // Taking each CROSSING that joins what is still apart, in order, gives the ties that are told first.
        private void tie(Loops loops) {
            ties = 0;
            for (int loop = 0; loop < MOST_LOOPS; loop++) {
                groups[loop] = loop;
            }
            for (int number = 0; number < MOST_INNER; number++) {
                int from = groupOf(loops.ownerAt(overs[number]));
                int into = groupOf(loops.ownerAt(unders[number]));
                if (from != into && ties < MOST_LOOPS) {
                    tied[ties] = number;
                    ties++;
                    regroup(from, into);
                }
            }
        }

        private int groupOf(int loop) {
            return at(groups, loop);
        }

        private void regroup(int from, int into) {
            for (int loop = 0; loop < MOST_LOOPS; loop++) {
                if (groups[loop] == from) {
                    groups[loop] = into;
                }
            }
        }

        private int tieAt(int i) {
            return at(tied, i);
        }

        private int overAt(int number) {
            return at(overs, number);
        }

        private int underAt(int number) {
            return at(unders, number);
        }

        private int arcAt(int step) {
            return at(arcsBySteps, step);
        }

        private boolean isHere(int number) {
            return overAt(number) >= 0 && underAt(number) >= 0;
        }

        private int loopOver(Loops loops, int number) {
            return loops.ownerAt(overAt(number));
        }

        private int loopUnder(Loops loops, int number) {
            return loops.ownerAt(underAt(number));
        }

        private int countPasses(Loops loops, int loop, int pass) {
            int count = 0;
            int until = loops.firstStep(loop + 1);
            for (int step = loops.firstStep(loop); step < until && isIn(passes, step); step++) {
                if (passes[step] == pass) {
                    count++;
                }
            }
            return count;
        }

        private int countBends(Loops loops, int loop) {
            return countPasses(loops, loop, BEND);
        }

        /** How often the LOOP does not ALTERNATE. */
        private int countUneven(Loops loops, int loop) {
            int count = 0;
            int before = lastPass(loops, loop);
            int until = loops.firstStep(loop + 1);
            for (int step = loops.firstStep(loop); step < until && isIn(passes, step); step++) {
                if (passes[step] != BEND) {
                    if (passes[step] == before) {
                        count++;
                    }
                    before = passes[step];
                }
            }
            return count;
        }

        private int lastPass(Loops loops, int loop) {
            int last = BEND;
            int until = loops.firstStep(loop + 1);
            for (int step = loops.firstStep(loop); step < until && isIn(passes, step); step++) {
                if (passes[step] != BEND) {
                    last = passes[step];
                }
            }
            return last;
        }

        private boolean isShared(Loops loops, int number, int loop, int other) {
            int over = loopOver(loops, number);
            int under = loopUnder(loops, number);
            return over == loop && under == other || over == other && under == loop;
        }

        private int countShared(Loops loops, int loop, int other) {
            int count = 0;
            for (int number = 0; number < MOST_INNER; number++) {
                if (isShared(loops, number, loop, other)) {
                    count++;
                }
            }
            return count;
        }

        private int signAt(Loops loops, int number) {
            int over = overAt(number);
            int under = underAt(number);
            int turn = loops.rightAt(over) * loops.downAt(under) - loops.downAt(over) * loops.rightAt(under);
            return turn > 0 ? 1 : -1;
        }

        private int sumSigns(Loops loops) {
            int sum = 0;
            for (int number = 0; number < MOST_INNER; number++) {
                if (isHere(number)) {
                    sum += signAt(loops, number);
                }
            }
            return sum;
        }

        private int sumSharedSigns(Loops loops, int loop, int other) {
            int sum = 0;
            for (int number = 0; number < MOST_INNER; number++) {
                if (isShared(loops, number, loop, other)) {
                    sum += signAt(loops, number);
                }
            }
            return sum;
        }
    }

    /** How many ARCS may be coloured freely: ARCS less what the rules of the CROSSINGS fix. */
    private static final class Colouring {
        private int width;
        private int height;
        private final int[][] rules = new int[MOST_INNER][MOST_ARCS];

        private int countFree(Loops loops, Crossings crossings, int p) {
            if (p < 2) {
                return NONE;
            }
            gather(loops, crossings);
            int rank = 0;
            for (int arc = 0; arc < width && rank < height; arc++) {
                int found = findRule(rank, arc, p);
                if (found >= 0) {
                    swap(rank, found);
                    clearBelow(rank, arc, p);
                    rank++;
                }
            }
            return width - rank;
        }

        private void gather(Loops loops, Crossings crossings) {
            width = Math.min(crossings.arcs, MOST_ARCS);
            height = 0;
            for (int number = 0; number < MOST_INNER && height < MOST_INNER; number++) {
                if (crossings.isHere(number)) {
                    int[] rule = rules[height];
                    height++;
                    int under = crossings.underAt(number);
                    Arrays.fill(rule, 0);
                    add(rule, crossings.arcAt(crossings.overAt(number)), 2);
                    add(rule, crossings.arcAt(under), -1);
                    add(rule, crossings.arcAt(loops.stepAfter(under)), -1);
                }
            }
        }

        private static void add(int[] rule, int arc, int times) {
            if (isIn(rule, arc)) {
                rule[arc] += times;
            }
        }

        private int findRule(int from, int arc, int p) {
            for (int i = from; i < height; i++) {
                if (rules[i][arc] % p != 0) {
                    return i;
                }
            }
            return NONE;
        }

        private void swap(int i, int j) {
            int[] rule = rules[i];
            rules[i] = rules[j];
            rules[j] = rule;
        }

        // Rows are multiplied crosswise, not divided: by a prime no factor but 0 loses anything.
        private void clearBelow(int rank, int arc, int p) {
            int[] lead = rules[rank];
            int factor = lead[arc];
            for (int i = rank + 1; i < height; i++) {
                int[] rule = rules[i];
                int times = rule[arc];
                if (times % p != 0) {
                    for (int j = arc; j < width; j++) {
                        rule[j] = (rule[j] * factor - lead[j] * times) % p;
                    }
                }
            }
        }
    }
}
