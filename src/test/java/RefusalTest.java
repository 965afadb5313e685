import java.util.Random;

/**
 * What is refused changes nothing: of two stacks that are asked the same, one is asked for what must be refused
 * in between, too; and no call ever throws, whatever it is asked for and however often.
 */
public final class RefusalTest {
    private static final int[] WILD = {Integer.MIN_VALUE, Integer.MIN_VALUE + 1, -1025, -100, -10, -9, -8, -4, -3, -2, -1,
        0, 1, 2, 3, 4, 5, 6, 7, 8, 9, 10, 11, 15, 16, 17, 20, 21, 99, 100, 1023, 1024, 65536, Integer.MAX_VALUE - 1,
        Integer.MAX_VALUE};

    private RefusalTest() {
    }

    public static void main(String[] args) {
        for (int run = 0; run < 200; run++) {
            twins(new Random(run));
        }
        for (int run = 0; run < 60; run++) {
            wild(new Random(1000 + run));
        }
        Due.finish("RefusalTest");
    }

    private static void twins(Random random) {
        FlueStack x = new FlueStack(), y = new FlueStack();
        String text = "size 6 6;beam 2 " + random.nextInt(3) + " 3;cold 0 1;hearth 0 1 9;hearth 1 5 20;hearth 3 3 4;";
        Due.tell(x, text);
        Due.tell(y, text);
        for (int i = 0; i < 25; i++) {
            refused(x, random.nextInt(27));
            long v = random.nextLong();
            Due.due("twins, step " + i, step(x, new Random(v)), step(y, new Random(v)));
        }
        for (int kind = 0; kind < 27; kind++) {
            refused(x, kind);
        }
        Due.due("twins at last", all(x), all(y));
    }

    /** One call that is refused, whatever the state of a wall of six by six with three hearths. */
    private static void refused(FlueStack x, int kind) {
        switch (kind) {
            case 0 -> Due.due("type", x.type(5, 9), -1);
            case 1 -> Due.due("type", x.type(5, 0), -1);
            case 2 -> Due.due("brick", x.brick(6, 0), -1);
            case 3 -> Due.due("hearth", x.hearth(3, 0), -1);
            case 4 -> Due.due("tune", x.tune(3, 0), -1);
            case 5 -> Due.due("tune", x.tune(6, 1), -1);
            case 6 -> Due.due("wind", x.wind(0, 6, 1), -1000000);
            case 7 -> Due.due("wind", x.wind(0, 0, 10), -1000000);
            case 8 -> Due.due("many", x.many(3), -1);
            case 9 -> Due.due("one", x.one(2, 2), -1);
            case 10 -> Due.due("together", x.together(8, 0), -1);
            case 11 -> Due.due("share", x.share(2), -1);
            case 12 -> Due.due("more", x.more(7, 0, 0), -1);
            case 13 -> Due.due("take", x.take(0), -1);
            case 14 -> Due.due("way", x.way(2, 2), -1000000);
            case 15 -> Due.due("turn", x.turn(2, 3, 1), -1000000);
            case 16 -> Due.due("turn", x.turn(0, 3, 2), -1000000);
            case 17 -> Due.due("judge", x.judge(3), -1);
            case 18 -> Due.due("plan", x.plan(0, 4), -1);
            case 19 -> Due.due("draw", x.draw(0, 4), -1000000);
            case 20 -> Due.due("smokes", x.smokes(0, 3, 0), -1);
            case 21 -> Due.due("mend", x.mend(3), -1);
            case 22 -> Due.due("moved", x.moved(1024, 0), -1);
            case 23 -> Due.due("mark", x.mark(6, 0), -1);
            case 24 -> Due.due("rate", x.rate(6, 0), -1000000);
            case 25 -> Due.due("keep", x.keep(2), -1);
            default -> Due.due("back", x.back(2), -1);
        }
    }

    private static long step(FlueStack x, Random random) {
        int a = random.nextInt(3), b = random.nextInt(6), c = random.nextInt(6);
        return switch (random.nextInt(16)) {
            case 0 -> x.type(0x7a7a7a7a7a7a7a7aL, b + 1);
            case 1 -> x.tune(b, c == 0 ? 1 : Math.min(c, 3));
            case 2 -> x.wind(a, b, c - 3);
            case 3 -> x.take(1 + b);
            case 4, 5, 6 -> x.turn(a, b, c % 3 - 1);
            case 7, 8 -> x.mark(b, c);
            case 9 -> x.keep(a % 2);
            case 10 -> x.back(a % 2);
            case 11 -> x.rate(b, a);
            // what is typed here is no wall, so this one is refused, and the old one stays
            case 12 -> x.count(4) > 0 ? x.wall() : 0;
            case 13 -> x.together(7, 0) + x.more(3, b, 0) + x.share(0);
            case 14 -> x.moved(1 << b, 1);
            default -> x.clear();
        };
    }

    /** All that can be asked of a stack, at the end of its use: images come back, too. */
    private static String all(FlueStack x) {
        StringBuilder told = new StringBuilder();
        for (int i = 0; i < 3; i++) {
            for (int what = 0; what < 6; what++) {
                told.append(x.count(what)).append(' ').append(x.trace()).append(' ').append(x.share(0)).append(' ');
            }
            for (int h = 0; h < 3; h++) {
                told.append(x.many(h)).append(' ').append(x.guess(h)).append(' ').append(x.mend(h)).append(' ');
                for (int r = 0; r < 6; r++) {
                    told.append(x.way(h, r)).append(' ').append(x.one(h, r)).append(' ');
                }
                for (int q = 0; q < 4; q++) {
                    told.append(x.draw(h, q)).append(' ').append(x.plan(h, q)).append(' ');
                }
            }
            told.append(x.judge(0)).append(x.judge(1)).append(x.judge(2)).append("; ");
            told.append(i < 2 ? x.back(i) : 0).append(' ');
        }
        for (int i = 0; i < 6; i++) {
            told.append(x.tune(i, 1)).append(' ');
            for (int q = 0; q < 4; q++) {
                told.append(x.wind(q, i, 0)).append(' ');
            }
        }
        return told.append(x.wall()).append(' ').append(x.clear()).toString();
    }

    private static void wild(Random random) {
        FlueStack x = new FlueStack();
        String[] texts = {"size 10 16;hearth 0 0 9;hearth 0 4 50;hearth 5 9 20;", "size 2 2;hearth 0 0 0;hearth 0 1 0;",
            "size 6 8;hearth 0 2 30;hearth 0 4 10;hearth 2 0 10;cold 0 0;beam 3 3 4;", "", "size 3 16;hearth 14 2 1;"};
        for (int i = 0; i < 3000; i++) {
            if (random.nextInt(150) == 0) {
                x.clear();
                Due.write(x, texts[random.nextInt(texts.length)]);
                x.wall();
            }
            try {
                wildCall(x, random);
            } catch (RuntimeException e) {
                Due.due("a call that throws " + e, 1, 0);
            }
        }
    }

    private static int any(Random random) {
        return random.nextInt(3) == 0 ? WILD[random.nextInt(WILD.length)] : random.nextInt(8) - 1;
    }

    private static void wildCall(FlueStack x, Random random) {
        int a = any(random), b = any(random), c = any(random);
        switch (random.nextInt(29)) {
            case 0 -> x.type(random.nextLong(), a);
            case 1 -> x.clear();
            case 2 -> x.wall();
            case 3 -> x.brick(a, b);
            case 4 -> x.hearth(a, b);
            case 5 -> x.tune(a, b);
            case 6 -> x.wind(a, b, c);
            case 7 -> x.many(a);
            case 8 -> x.one(a, b);
            case 9 -> x.together(a, b);
            case 10 -> x.share(a);
            case 11 -> x.more(a, b, c);
            case 12 -> x.take(a);
            case 13 -> x.way(a, b);
            case 14, 15, 16 -> x.turn(a, b, c);
            case 17 -> x.judge(a);
            case 18 -> x.plan(a, b);
            case 19 -> x.draw(a, b);
            case 20 -> x.smokes(a, b, c);
            case 21 -> x.mend(a);
            case 22 -> x.moved(a, b);
            case 23 -> x.mark(a, b);
            case 24 -> x.guess(a);
            case 25 -> x.rate(a, b);
            case 26 -> x.keep(a);
            case 27 -> x.back(a);
            default -> x.count(a);
        }
        if (x.trace() < 0) {
            Due.due("trace below 0", 1, 0);
        }
    }
}
