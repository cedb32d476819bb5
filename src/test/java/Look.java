import java.util.List;

/** All that an object answers, THE TEXT and the SLOTS too; the object is of no more use behind it. */
final class Look {
    private Look() { }

    /** For plaits of some seven inner points: some 350 calls. */
    static String at(PlaitAndBreak x) {
        StringBuilder told = new StringBuilder();
        told.append(Due.all(x)).append("| points ");
        List<Integer> points = List.copyOf(Reference.innerPoints(x.about(0), x.about(1)));
        for (int point : points) {
            told.append(x.which(point, true)).append(' ').append(x.which(point, false)).append(' ');
            told.append(x.sign(point)).append(' ').append(x.by(point, 1)).append(' ').append(x.by(point, 2)).append(' ');
        }
        lookAtLoops(x, told);
        lookAtBreaks(x, told);
        lookAtSlots(x, told);
        return told.toString();
    }

    private static void lookAtLoops(PlaitAndBreak x, StringBuilder told) {
        int loops = x.about(8);
        told.append("| loops ");
        for (int loop = 0; loop < loops; loop++) {
            for (int what = 0; what <= 5; what++) {
                told.append(x.along(loop, what)).append(' ');
            }
            int length = x.along(loop, 1);
            for (int k = 0; k < length; k++) {
                told.append(x.step(loop, k)).append(' ').append(x.end(loop, k)).append(' ');
            }
            for (int other = 0; other < loops; other++) {
                told.append(x.between(loop, other)).append(' ').append(x.linked(loop, other)).append(' ');
            }
        }
        told.append(x.writhe()).append(' ').append(x.colours(3)).append(' ').append(x.colours(5)).append(' ');
    }

    private static void lookAtBreaks(PlaitAndBreak x, StringBuilder told) {
        told.append("| breaks ").append(x.most(1)).append(' ').append(x.most(2)).append(' ').append(x.one()).append(' ');
        for (int i = 0; i < 3; i++) {
            told.append(x.oneAt(i)).append(' ');
        }
        for (int t = 0; t < 8; t++) {
            told.append(x.same(t)).append(' ');
        }
    }

    // Last, since what is kept, and THE TEXT, can be seen only by going on from it.
    private static void lookAtSlots(PlaitAndBreak x, StringBuilder told) {
        for (int slot = 0; slot < 2; slot++) {
            told.append("| slot ").append(x.again(slot)).append(' ').append(Due.all(x));
        }
        told.append("| text ").append(x.plait()).append(' ').append(Due.all(x)).append(x.wipe());
    }
}
