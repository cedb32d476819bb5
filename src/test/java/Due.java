/** Counts the answers that are not the due ones, and tells each. */
final class Due {
    private int wrong;
    private int asked;

    void is(String call, long got, long want) {
        asked++;
        if (got != want) {
            wrong++;
            if (wrong <= 40) {
                System.out.println(call + " answered " + got + ", due is " + want);
            }
        }
    }

    void isTrue(String what, boolean holds) {
        is(what, holds ? 1 : 0, 1);
    }

    void end() {
        System.out.println(asked + " answers, " + wrong + " wrong");
        if (wrong != 0) {
            System.exit(1);
        }
    }

    /** Writes a text as the document wants it: up to eight bytes a call. */
    static void type(PlaitAndBreak x, String text) {
        for (int at = 0; at < text.length(); at += 8) {
            int n = Math.min(8, text.length() - at);
            long v = 0;
            for (int i = 0; i < n; i++) {
                v = v << 8 | text.charAt(at + i) & 0xff;
            }
            x.write(n, v);
        }
    }

    /** A new object of which the text is THE PLAIT (and THE TEXT is empty again). */
    static PlaitAndBreak drawn(String text) {
        PlaitAndBreak x = new PlaitAndBreak();
        type(x, text);
        x.plait();
        x.wipe();
        return x;
    }

    /** What THE PLAIT and THE TEXT are: few calls, as an object is good for 512 of them. */
    static String all(PlaitAndBreak x) {
        StringBuilder told = new StringBuilder();
        for (int what = 0; what <= 12; what++) {
            told.append(x.about(what)).append(' ');
        }
        told.append(x.fault()).append(' ');
        for (int point : Reference.innerPoints(x.about(0), x.about(1))) {
            told.append(x.point(point)).append(' ');
        }
        return told.toString();
    }
}
