/** All that a stack can be asked for, in one text. It takes up to some 450 calls, and uses the stack up. */
final class Whole {
    private final FlueStack x;
    private final StringBuilder told = new StringBuilder();

    private Whole(FlueStack x) {
        this.x = x;
    }

    static String of(FlueStack x) {
        Whole whole = new Whole(x);
        whole.wall();
        whole.plan("plan");
        whole.judged();
        whole.images();
        // what is set here comes last: a tune or a wind tells what it was only when it becomes another one
        whole.tunes();
        whole.winds();
        whole.text();
        return whole.told.toString();
    }

    private void add(String name, long answer) {
        told.append(name).append('=').append(answer).append(' ');
    }

    private void wall() {
        for (int what = 0; what <= 5; what++) {
            add("count" + what, x.count(what));
        }
        add("trace", x.trace());
        int width = x.count(0), height = x.count(1), hearths = x.count(2);
        for (int r = 0; r < height; r++) {
            for (int c = 0; c < width; c++) {
                add("brick" + r + "," + c, x.brick(r, c));
            }
        }
        for (int h = 0; h < hearths; h++) {
            for (int what = 0; what <= 2; what++) {
                add("hearth" + h + "," + what, x.hearth(h, what));
            }
        }
    }

    private void plan(String name) {
        int height = x.count(1), hearths = x.count(2);
        for (int h = 0; h < hearths; h++) {
            for (int r = x.hearth(h, 0); r < height; r++) {
                add(name + h + "," + r, x.way(h, r));
            }
            add("guess" + h, x.guess(h));
        }
        add("marks", x.count(3));
    }

    private void judged() {
        for (int what = 0; what <= 2; what++) {
            add("judge" + what, x.judge(what));
        }
        int hearths = x.count(2);
        for (int h = 0; h < hearths; h++) {
            add("mend" + h, x.mend(h));
            add("doors" + h, x.plan(h, 3));
        }
    }

    private void images() {
        for (int image = 0; image <= 1; image++) {
            add("back" + image, x.back(image));
            plan("image" + image + " ");
        }
    }

    private void tunes() {
        for (int i = 0; i < 6; i++) {
            add("tune" + i, x.tune(i, 1));
        }
    }

    private void winds() {
        int width = x.count(0);
        for (int q = 0; q < 4; q++) {
            for (int c = 0; c < width; c++) {
                add("wind" + q + "," + c, x.wind(q, c, 0));
            }
        }
    }

    private void text() {
        if (x.count(4) > 0) {
            add("read", x.wall());
            wall();
        }
    }
}
