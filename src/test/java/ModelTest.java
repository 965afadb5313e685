import java.util.Random;

/** Long random runs of calls, all compared with the document told plainly (Model). */
public final class ModelTest {
    private final Random random;
    private final FlueStack x = new FlueStack();
    private final Model m = new Model();
    private final int run;
    private final StringBuilder log = new StringBuilder();

    private ModelTest(int run) {
        this.run = run;
        random = new Random(run * 7919L + 11);
    }

    public static void main(String[] args) {
        for (int run = 0; run < 1500; run++) {
            new ModelTest(run).smallWalls();
        }
        for (int run = 1500; run < 1650; run++) {
            new ModelTest(run).largeWalls();
        }
        for (int run = 1650; run < 4650; run++) {
            new ModelTest(run).texts();
        }
        Due.finish("ModelTest");
    }

    /** From one below the least to one above the most, mostly between. */
    private int about(int least, int most) {
        if (random.nextInt(25) == 0) {
            return random.nextBoolean() ? least - 1 : most + 1;
        }
        return least + (most < least ? 0 : random.nextInt(most - least + 1));
    }

    private int in(int least, int most) {
        return least + random.nextInt(most - least + 1);
    }

    private void write(String text) {
        for (int i = 0; i < text.length();) {
            int n = Math.min(in(1, 8), text.length() - i);
            long v = Due.bytes(text.substring(i, i + n));
            // what stands above the n bytes must not matter
            if (n < 8) {
                v |= random.nextLong() << (8 * n);
            }
            same("type(" + v + "," + n + ")", x.type(v, n), m.type(v, n));
            i += n;
        }
    }

    private void same(String call, long got, long want) {
        log.append(call).append("; ");
        String all = log.length() > 3000 ? "..." + log.substring(log.length() - 3000) : log.toString();
        Due.due(got == want ? call : "run " + run + ": " + all, got, want);
    }

    private String wallText(int leastW, int mostW, int leastH, int mostH) {
        int w = in(leastW, mostW), h = in(leastH, mostH);
        StringBuilder text = new StringBuilder("size " + w + " " + h + ";");
        int hearths = random.nextInt(8) == 0 ? in(0, 2) : 3;
        int beams = random.nextInt(4) == 0 ? in(0, 6) : in(0, 2);
        for (int i = 0; i < beams; i++) {
            int c = in(0, w - 1);
            text.append("beam ").append(in(0, h - 1)).append(' ').append(c).append(' ')
                    .append(Math.min(w - 1, c + in(0, 1))).append(';');
        }
        for (int i = in(0, 2); i > 0; i--) {
            int c = in(0, w - 1);
            text.append("cold ").append(c).append(' ').append(in(c, w - 1)).append(';');
        }
        for (int i = 0; i < hearths; i++) {
            text.append("hearth ").append(in(0, random.nextBoolean() ? h - 2 : 0)).append(' ').append(in(0, w - 1))
                    .append(' ').append(random.nextInt(5) == 0 ? in(0, 99) : in(0, 4 * h)).append(';');
        }
        return text.toString();
    }

    private void smallWalls() {
        write(wallText(2, 7, 2, 5));
        same("wall()", x.wall(), m.wall());
        if (random.nextInt(3) > 0) {
            same("tune(0)", x.tune(0, run % 2), m.tune(0, run % 2));
        }
        // some runs are mostly about marks and images, which take many calls to get in one another's way
        int[] aboutImages = {5, 5, 6, 6, 7, 7, 7, 8, 8, 20, 16, 23};
        for (int i = 0; i < 80; i++) {
            call(run % 5 == 0 ? aboutImages[random.nextInt(aboutImages.length)] : random.nextInt(31));
        }
        wholeState();
    }

    private void largeWalls() {
        m.writtenOut = false;
        write(wallText(6, 10, 10, 16));
        same("wall()", x.wall(), m.wall());
        int[] kinds = {4, 12, 12, 13, 14, 16, 17, 18, 20, 21, 21, 24, 27, 28, 29, 28};
        for (int i = 0; i < 14; i++) {
            call(kinds[random.nextInt(kinds.length)]);
        }
        wholeState();
    }

    private void wholeState() {
        for (int h = 0; h < 3; h++) {
            for (int r = -1; r <= m.h; r++) {
                same("way(" + h + "," + r + ")", x.way(h, r), m.way(h, r));
            }
            for (int what = -1; what <= 4; what++) {
                same("plan(" + h + "," + what + ")", x.plan(h, what), m.plan(h, what));
                same("hearth(" + h + "," + what + ")", x.hearth(h, what), m.hearth(h, what));
            }
        }
        for (int r = -1; r <= m.h; r++) {
            for (int c = -1; c <= m.w; c++) {
                same("brick(" + r + "," + c + ")", x.brick(r, c), m.brick(r, c));
            }
        }
        for (int what = -1; what <= 6; what++) {
            same("count(" + what + ")", x.count(what), m.count(what));
        }
        same("trace()", x.trace(), m.trace());
    }

    private void call(int kind) {
        if (kind < 10) {
            callOfWall(kind);
        } else if (kind < 20) {
            callOfWays(kind);
        } else {
            callOfPlan(kind);
        }
    }

    private int h() {
        return about(0, m.hearths.size() - 1);
    }

    private int set() {
        return random.nextInt(3) == 0 ? (1 << m.hearths.size()) - 1 : about(1, (1 << m.hearths.size()) - 1);
    }

    private void callOfWall(int kind) {
        int a = h(), r = about(0, m.h - 1), c = about(0, m.w - 1), what = about(0, 2);
        switch (kind) {
            case 0 -> same("brick(" + r + "," + c + ")", x.brick(r, c), m.brick(r, c));
            case 1 -> same("hearth(" + a + "," + what + ")", x.hearth(a, what), m.hearth(a, what));
            case 2 -> {
                int q = about(0, 3), v = about(-9, 9);
                same("wind(" + q + "," + c + "," + v + ")", x.wind(q, c, v), m.wind(q, c, v));
            }
            case 3 -> {
                if (random.nextInt(12) == 0) {
                    write(wallText(2, 7, 2, 5));
                    same("wall()", x.wall(), m.wall());
                }
            }
            case 4 -> {
                int t = about(0, 5);
                int v = about(t == 3 ? 1 : 0, t == 0 ? 3 : t == 4 ? 9 : t == 5 ? 99 : 20);
                if (t == 0 && v > 1 && random.nextInt(3) > 0) {
                    v = 1;
                }
                same("tune(" + t + "," + v + ")", x.tune(t, v), m.tune(t, v));
            }
            case 5 -> same("keep(" + (what - 1) + ")", x.keep(what - 1), m.keep(what - 1));
            case 6 -> same("back(" + (what - 1) + ")", x.back(what - 1), m.back(what - 1));
            case 7 -> same("mark(" + r + "," + c + ")", x.mark(r, c), m.mark(r, c));
            case 8 -> same("guess(" + a + ")", x.guess(a), m.guess(a));
            default -> {
                int k = about(0, 5);
                same("rate(" + k + "," + a + ")", x.rate(k, a), m.rate(k, a));
                same("trace()", x.trace(), m.trace());
            }
        }
    }

    private void callOfWays(int kind) {
        int a = h(), set = set(), what = about(0, 1);
        switch (kind) {
            case 10 -> same("many(" + a + ")", x.many(a), m.many(a));
            case 11, 19 -> {
                int r = about(-2, m.h - 1);
                same("one(" + a + "," + r + ")", x.one(a, r), m.one(a, r));
            }
            case 12 -> same("together(" + set + "," + what + ")", x.together(set, what), m.together(set, what));
            case 13 -> same("share(" + what + ")", x.share(what), m.share(what));
            case 14, 15 -> {
                int s = about(0, Math.min(6, (1 << m.hearths.size()) - 1)), r = about(0, m.h - 2);
                same("more(" + s + "," + r + "," + what + ")", x.more(s, r, what), m.more(s, r, what));
            }
            default -> {
                same("take(" + set + ")", x.take(set), m.take(set));
                for (int i = 0; i < m.hearths.size(); i++) {
                    int r = in(0, m.h - 1);
                    same("way(" + i + "," + r + ")", x.way(i, r), m.way(i, r));
                }
            }
        }
    }

    private void callOfPlan(int kind) {
        int a = h(), what = about(0, 2), q = about(0, 3), r = about(1, m.h - 1);
        switch (kind) {
            case 20 -> {
                int d = about(-1, 1);
                same("turn(" + a + "," + r + "," + d + ")", x.turn(a, r, d), m.turn(a, r, d));
            }
            case 21, 22 -> {
                same("judge(" + what + ")", x.judge(what), m.judge(what));
                same("judge(0)", x.judge(0), m.judge(0));
            }
            case 23 -> same("way(" + a + "," + r + ")", x.way(a, r), m.way(a, r));
            case 24 -> same("plan(" + a + "," + (what + 1) + ")", x.plan(a, what + 1), m.plan(a, what + 1));
            case 25 -> same("draw(" + a + "," + q + ")", x.draw(a, q), m.draw(a, q));
            case 26 -> {
                int o = h();
                same("smokes(" + a + "," + o + "," + q + ")", x.smokes(a, o, q), m.smokes(a, o, q));
            }
            case 27 -> same("mend(" + a + ")", x.mend(a), m.mend(a));
            case 28, 29 -> {
                int columns = random.nextInt(3) == 0 ? about(0, 1023) : 1 << in(0, m.w - 1);
                same("moved(" + columns + "," + (what - 1) + ")", x.moved(columns, what - 1), m.moved(columns, what - 1));
            }
            default -> same("count(" + what + ")", x.count(what + 3), m.count(what + 3));
        }
    }

    /** Texts that are nearly right. */
    private void texts() {
        StringBuilder text = new StringBuilder();
        String[] pieces = {"size ", "beam ", "cold ", "hearth ", ";", " ", "0", "1", "2", "5", "9", "10", "16", "17", "99",
            "100", "07", "00", "x", "sizes", "beam", "hearth", "A", "\u00c8", "\t", "\u0000", "-"};
        if (random.nextInt(3) == 0) {
            for (int i = in(0, 12); i > 0; i--) {
                text.append(pieces[random.nextInt(pieces.length)]);
            }
        } else {
            text.append(wallText(2, 10, 2, 16));
            if (random.nextBoolean()) {
                text.delete(0, text.indexOf(";") + 1);
            }
            for (int i = in(0, 2); i > 0; i--) {
                int place = in(0, text.length());
                switch (random.nextInt(4)) {
                    case 0 -> text.insert(place, pieces[random.nextInt(pieces.length)]);
                    case 1 -> text.delete(place, Math.min(text.length(), place + 1));
                    case 2 -> text.setLength(place);
                    default -> text.insert(place, "   ".substring(in(0, 2)));
                }
            }
        }
        write(text.toString());
        same("wall() of <" + text + ">", x.wall(), m.wall());
        wholeState();
    }
}
