import java.util.Random;

/**
 * Long runs of calls with any arguments: nothing throws, questions and refused calls change nothing, and two objects
 * that are asked the same answer the same, whatever else one of them is asked between.
 */
public final class WildTest {
    private static final int[] EDGES = {Integer.MIN_VALUE, Integer.MIN_VALUE + 1, -10000, -101, -100, -1, 0, 1, 2, 3, 12, 13,
        99, 100, 101, 102, 201, 1111, 1112, 1211, 1212, 1300, 9999, 10000, Integer.MAX_VALUE - 1, Integer.MAX_VALUE};
    private static final int CALLS = 26;
    private static final Due due = new Due();

    public static void main(String[] args) {
        Random random = new Random(26);
        for (int run = 0; run < 500; run++) {
            goWild(random);
        }
        due.end();
    }

    private static void goWild(Random random) {
        PlaitAndBreak x = new PlaitAndBreak();
        PlaitAndBreak twin = new PlaitAndBreak();
        // With what is asked at last an object is asked 512 times at most.
        for (int i = 0; i < 400; i++) {
            int call = random.nextInt(CALLS);
            int a = argument(random);
            int b = argument(random);
            long v = random.nextInt(3) == 0 ? typed(random) : random.nextLong();
            boolean small = random.nextBoolean();
            int got = ask(x, call, a, b, v, small);
            if (changes(call) && got != -1 && got != -2 && got != -3 && got != -4) {
                due.is("twin, call " + call, ask(twin, call, a, b, v, small), got);
            }
        }
        due.isTrue("twin is like it", Due.all(x).equals(Due.all(twin)));
        for (int call = 8; call < 24; call++) {
            due.is("twin at last, call " + call, ask(twin, call, 1, 1, 0, true), ask(x, call, 1, 1, 0, true));
        }
    }

    private static int argument(Random random) {
        switch (random.nextInt(4)) {
            case 0: return EDGES[random.nextInt(EDGES.length)];
            case 1: return random.nextInt(9) - 1;
            case 2: return 100 * random.nextInt(14) + random.nextInt(14);
            default: return random.nextInt(8) == 0 ? random.nextInt() : random.nextInt(8);
        }
    }

    private static long typed(Random random) {
        String signs = "NHVO0123456";
        long v = 0;
        for (int i = 0; i < 8; i++) {
            v = v << 8 | signs.charAt(random.nextInt(signs.length()));
        }
        return v;
    }

    private static boolean changes(int call) {
        return call == 0 || call == 1 || call == 3 || call == 4 || call == 6 || call == 24 || call == 25;
    }

    private static int ask(PlaitAndBreak x, int call, int a, int b, long v, boolean flag) {
        switch (call) {
            case 0: return x.write(flag ? 3 : a, flag ? 0x4e3034L | (v & 7) << 8 | v >>> 8 & 3 : v);
            case 1: return x.wipe();
            case 2: return x.fault();
            case 3: return x.plait();
            case 4: return x.make(a, b, v, flag ? 1 : a, flag ? 2 : b);
            case 5: return x.point(a);
            case 6: return x.set(a, b);
            case 7: return x.about(a);
            case 8: return x.loop(a);
            case 9: return x.along(a, b);
            case 10: return x.step(a, b);
            case 11: return x.end(a, b);
            case 12: return x.between(a, b);
            case 13: return x.which(a, flag);
            case 14: return x.sign(a);
            case 15: return x.writhe();
            case 16: return x.linked(a, b);
            case 17: return x.colours(flag ? 3 + 2 * (a & 1) : a);
            case 18: return x.by(a, b);
            case 19: return x.most(a);
            case 20: return x.one();
            case 21: return x.oneAt(a);
            case 22: return x.same(a);
            case 23: return x.about(8);
            case 24: return x.keep(a);
            default: return x.again(a);
        }
    }
}
