import java.util.ArrayList;
import java.util.Arrays;
import java.util.HashMap;
import java.util.List;
import java.util.Map;
import java.util.function.Supplier;

/**
 * Promises 2 to 29, what is refused: for each number of each call the last one that is told and those beyond it on
 * either side, down to the smallest and up to the largest int; what is answered; that nothing has changed behind it.
 */
public final class CallEdgesTest {
    private static final int BAD = -1, STATE = -2, FULL = -3, NONE = -9, NO = -1000000;
    private static final int[] FAR = {Integer.MIN_VALUE, Integer.MIN_VALUE + 1, -1000000, -65536, -256, -32, -10, -9, -3, -2,
        -1, 8, 10, 16, 31, 32, 33, 63, 64, 65, 255, 256, 300, 1023, 1024, 65536, 1 << 30, Integer.MAX_VALUE - 1,
        Integer.MAX_VALUE};
    private static final Map<Supplier<FlueStack>, String> UNTOUCHED = new HashMap<>();

    private interface Call {
        long of(FlueStack x, int[] numbers);
    }

    private CallEdgesTest() {
    }

    public static void main(String[] args) {
        untouchedIsWhole();
        textAndWall();
        tuneAndWind();
        ways();
        plan();
        drawing();
        marksAndImages();
        fewerHearths();
        lastOfTheWall();
        textIsFull();
        longsOfAnySize();
        marksAreFull();
        stateOfTake();
        stateOfMoved();
        stateOfBack();
        faultsChangeNothing();
        asksChangeNothing();
        Due.finish("CallEdgesTest");
    }

    // ---- stacks of which everything differs from what it is at first

    /** Six columns, five courses, three hearths (0 and 2 in course 0, 1 in course 1), a text of another wall. */
    private static FlueStack three() {
        return busy("size 6 5;beam 3 3 3;cold 0 1;hearth 0 1 9;hearth 1 3 20;hearth 0 5 3;");
    }

    private static FlueStack two() {
        return busy("size 6 5;cold 5 5;hearth 0 1 9;hearth 1 3 20;");
    }

    private static FlueStack one() {
        return busy("size 6 5;beam 4 0 0;hearth 0 1 99;");
    }

    private static FlueStack none() {
        return busy("size 6 5;beam 4 0 0;");
    }

    private static FlueStack busy(String wall) {
        FlueStack x = Due.told(wall);
        x.tune(1, 4);
        x.tune(5, 7);
        x.wind(0, 1, 5);
        x.wind(3, 5, -9);
        x.mark(4, 2);
        x.turn(0, 2, -1);
        x.keep(0);
        x.mark(3, 1);
        x.turn(0, 3, 1);
        x.turn(1, 3, 1);
        x.rate(4, 0);
        Due.write(x, "size 4 3;cold 1 2;hearth 1 2 7;beam 0 1 1;");
        return x;
    }

    // ---- how a call is asked

    private static void refused(String name, Supplier<FlueStack> made, long refusal, Call call, int... numbers) {
        StringBuilder told = new StringBuilder(name);
        for (int number : numbers) {
            told.append(' ').append(number);
        }
        FlueStack x = made.get();
        Due.due(told.toString(), call.of(x, numbers), refusal);
        Due.due("what stands behind " + told, Whole.of(x), UNTOUCHED.computeIfAbsent(made, m -> Whole.of(m.get())));
    }

    private static void well(String name, Supplier<FlueStack> made, long refusal, Call call, int[] numbers) {
        StringBuilder told = new StringBuilder(name);
        for (int number : numbers) {
            told.append(' ').append(number);
        }
        Due.due("refused: " + told, call.of(made.get(), numbers) == refusal ? 1 : 0, 0);
    }

    private static int[] outside(int[] range) {
        List<Integer> all = new ArrayList<>(List.of(range[0] - 2, range[0] - 1, range[1] + 1, range[1] + 2));
        for (int far : FAR) {
            all.add(far);
        }
        return all.stream().distinct().mapToInt(v -> v).filter(v -> v < range[0] || v > range[1]).toArray();
    }

    /** Each number in turn is the first and the last one told, and then all that are beyond; the others are well. */
    private static void edges(String name, Supplier<FlueStack> made, long refusal, Call call, int[] well, int[]... ranges) {
        well(name, made, refusal, call, well);
        for (int i = 0; i < ranges.length; i++) {
            int[] numbers = well.clone();
            for (int edge : ranges[i]) {
                numbers[i] = edge;
                well(name, made, refusal, call, numbers);
            }
            for (int beyond : outside(ranges[i])) {
                numbers[i] = beyond;
                refused(name, made, refusal, call, numbers.clone());
            }
        }
        int[] least = new int[well.length], most = new int[well.length];
        Arrays.fill(least, Integer.MIN_VALUE);
        Arrays.fill(most, Integer.MAX_VALUE);
        refused(name, made, refusal, call, least);
        refused(name, made, refusal, call, most);
    }

    private static int[] of(int... numbers) {
        return numbers;
    }

    private static void untouchedIsWhole() {
        String whole = Whole.of(three());
        Due.due("the same stack tells the same", Whole.of(three()), whole);
        for (String part : new String[] {"count3=2 ", "count4=42 ", "trace=10011 ", "back0=1 ", "back1=-2 ", "tune1=4 ",
            "tune5=7 ", "wind0,1=5 ", "wind3,5=-9 ", "read=1 "}) {
            Due.due("the whole has " + part + " in " + whole, whole.contains(part) ? 1 : 0, 1);
        }
    }

    // ---- call by call, on a wall with three hearths

    private static void textAndWall() {
        Supplier<FlueStack> x = CallEdgesTest::three;
        edges("type", x, BAD, (s, n) -> s.type(0x3b3b3b3b3b3b3b3bL, n[0]), of(3), of(1, 8));
        edges("type of the least long", x, BAD, (s, n) -> s.type(Long.MIN_VALUE, n[0]), of(8), of(1, 8));
        edges("type of the greatest long", x, BAD, (s, n) -> s.type(Long.MAX_VALUE, n[0]), of(1), of(1, 8));
        edges("brick", x, BAD, (s, n) -> s.brick(n[0], n[1]), of(2, 2), of(0, 4), of(0, 5));
        edges("hearth", x, BAD, (s, n) -> s.hearth(n[0], n[1]), of(1, 1), of(0, 2), of(0, 2));
        edges("count", x, BAD, (s, n) -> s.count(n[0]), of(2), of(0, 5));
    }

    private static void tuneAndWind() {
        Supplier<FlueStack> x = CallEdgesTest::three;
        int[][] ranges = {{0, 3}, {0, 20}, {0, 20}, {1, 20}, {0, 9}, {0, 99}};
        for (int i = 0; i < 6; i++) {
            int what = i;
            edges("tune " + what, x, BAD, (s, n) -> s.tune(what, n[0]), of(1), ranges[i]);
        }
        edges("tune", x, BAD, (s, n) -> s.tune(n[0], n[1]), of(2, 1), of(0, 5));
        edges("wind", x, NO, (s, n) -> s.wind(n[0], n[1], n[2]), of(1, 1, 1), of(0, 3), of(0, 5), of(-9, 9));
    }

    private static void ways() {
        Supplier<FlueStack> x = CallEdgesTest::three;
        edges("many", x, BAD, (s, n) -> s.many(n[0]), of(1), of(0, 2));
        edges("one, BENDS", x, BAD, (s, n) -> s.one(n[0], -1), of(1), of(0, 2));
        edges("one, LEANS", x, BAD, (s, n) -> s.one(n[0], -2), of(1), of(0, 2));
        edges("one, a COLUMN", x, BAD, (s, n) -> s.one(n[0], 4), of(1), of(0, 2));
        for (int r : outside(of(1, 4))) {
            if (r != -1 && r != -2) {
                refused("one of hearth 1 in course", x, BAD, (s, n) -> s.one(1, n[0]), r);
            }
        }
        refused("one, ahead of LEANS", x, BAD, (s, n) -> s.one(0, n[0]), -3);
        refused("one, in no course", x, BAD, (s, n) -> s.one(0, n[0]), 5);
        for (int r : of(-2, -1, 1, 4)) {
            well("one of hearth 1", x, BAD, (s, n) -> s.one(1, n[0]), of(r));
        }
        well("one of hearth 0", x, BAD, (s, n) -> s.one(0, n[0]), of(0));
        edges("together", x, BAD, (s, n) -> s.together(n[0], n[1]), of(3, 1), of(1, 7), of(0, 1));
        edges("share", x, BAD, (s, n) -> s.share(n[0]), of(0), of(0, 1));
        edges("more", x, BAD, (s, n) -> s.more(n[0], n[1], n[2]), of(3, 2, 0), of(0, 6), of(0, 3), of(0, 1));
        refused("more than all three", x, BAD, (s, n) -> s.more(7, n[0], n[1]), 0, 0);
        refused("more than all three", x, BAD, (s, n) -> s.more(7, n[0], n[1]), 3, 1);
    }

    private static void plan() {
        Supplier<FlueStack> x = CallEdgesTest::three;
        edges("take", x, BAD, (s, n) -> s.take(n[0]), of(2), of(1, 7));
        edges("way of hearth 0", x, NO, (s, n) -> s.way(0, n[0]), of(2), of(0, 4));
        edges("way of hearth 1", x, NO, (s, n) -> s.way(1, n[0]), of(2), of(1, 4));
        edges("way", x, NO, (s, n) -> s.way(n[0], n[1]), of(1, 4), of(0, 2), of(1, 4));
        edges("turn of hearth 0", x, NO, (s, n) -> s.turn(0, n[0], n[1]), of(3, 0), of(1, 4), of(-1, 1));
        edges("turn of hearth 1", x, NO, (s, n) -> s.turn(1, n[0], n[1]), of(3, 0), of(2, 4), of(-1, 1));
        edges("turn", x, NO, (s, n) -> s.turn(n[0], n[1], n[2]), of(1, 4, 1), of(0, 2), of(2, 4), of(-1, 1));
        edges("judge", x, BAD, (s, n) -> s.judge(n[0]), of(0), of(0, 2));
        edges("plan", x, BAD, (s, n) -> s.plan(n[0], n[1]), of(1, 1), of(0, 2), of(0, 3));
    }

    private static void drawing() {
        Supplier<FlueStack> x = CallEdgesTest::three;
        edges("draw", x, NO, (s, n) -> s.draw(n[0], n[1]), of(1, 1), of(0, 2), of(0, 3));
        edges("smokes", x, BAD, (s, n) -> s.smokes(n[0], n[1], n[2]), of(1, 1, 1), of(0, 2), of(0, 2), of(0, 3));
        edges("mend", x, BAD, (s, n) -> s.mend(n[0]), of(1), of(0, 2));
        // ahead of STATE or not
        edges("moved", x, BAD, (s, n) -> s.moved(n[0], n[1]), of(1, 1), of(0, 1023), of(0, 1));
    }

    private static void marksAndImages() {
        Supplier<FlueStack> x = CallEdgesTest::three;
        edges("mark", x, BAD, (s, n) -> s.mark(n[0], n[1]), of(1, 1), of(0, 4), of(0, 5));
        edges("guess", x, BAD, (s, n) -> s.guess(n[0]), of(1), of(0, 2));
        edges("rate", x, NO, (s, n) -> s.rate(n[0], n[1]), of(1, 1), of(0, 5), of(0, 2));
        edges("keep", x, BAD, (s, n) -> s.keep(n[0]), of(1), of(0, 1));
        edges("back", x, BAD, (s, n) -> s.back(n[0]), of(0), of(0, 1));
    }

    // ---- where there are fewer hearths, or none

    private static void fewerHearths() {
        hearthsOf(CallEdgesTest::two, 2);
        hearthsOf(CallEdgesTest::one, 1);
        Supplier<FlueStack> x = CallEdgesTest::none;
        noHearth(x, 0);
        noHearth(x, -1);
        noHearth(x, Integer.MAX_VALUE);
        noHearth(FlueStack::new, 0);
        refused("together of none", x, BAD, (s, n) -> s.together(n[0], 0), 1);
        refused("take of none", x, BAD, (s, n) -> s.take(n[0]), 1);
        refused("more beside one that is not", x, BAD, (s, n) -> s.more(n[0], 0, 0), 1);
        well("more beside none", x, BAD, (s, n) -> s.more(n[0], 0, 0), of(0));
    }

    private static void hearthsOf(Supplier<FlueStack> x, int hearths) {
        int last = hearths - 1;
        int all = (1 << hearths) - 1;
        noHearth(x, hearths);
        noHearth(x, 2);
        edges("together", x, BAD, (s, n) -> s.together(n[0], 0), of(1), of(1, all));
        edges("take", x, BAD, (s, n) -> s.take(n[0]), of(1), of(1, all));
        edges("more", x, BAD, (s, n) -> s.more(n[0], 0, 1), of(0), of(0, all));
        edges("smokes", x, BAD, (s, n) -> s.smokes(n[0], n[1], 0), of(0, 0), of(0, last), of(0, last));
        edges("many", x, BAD, (s, n) -> s.many(n[0]), of(0), of(0, last));
        edges("guess", x, BAD, (s, n) -> s.guess(n[0]), of(0), of(0, last));
        edges("rate", x, NO, (s, n) -> s.rate(5, n[0]), of(0), of(0, last));
    }

    private static void noHearth(Supplier<FlueStack> x, int h) {
        refused("hearth", x, BAD, (s, n) -> s.hearth(n[0], 0), h);
        refused("many", x, BAD, (s, n) -> s.many(n[0]), h);
        refused("one, LEANS", x, BAD, (s, n) -> s.one(n[0], -2), h);
        refused("one, a COLUMN", x, BAD, (s, n) -> s.one(n[0], 4), h);
        refused("way", x, NO, (s, n) -> s.way(n[0], 4), h);
        refused("turn", x, NO, (s, n) -> s.turn(n[0], 4, 0), h);
        refused("plan", x, BAD, (s, n) -> s.plan(n[0], 0), h);
        refused("draw", x, NO, (s, n) -> s.draw(n[0], 0), h);
        refused("smokes", x, BAD, (s, n) -> s.smokes(n[0], n[0], 0), h);
        refused("mend", x, BAD, (s, n) -> s.mend(n[0]), h);
        refused("guess", x, BAD, (s, n) -> s.guess(n[0]), h);
        for (int kind = 0; kind <= 5; kind++) {
            int as = kind;
            refused("rate", x, NO, (s, n) -> s.rate(as, n[0]), h);
        }
    }

    // ---- the least and the greatest wall

    private static FlueStack least() {
        return Due.told("size 2 2;hearth 0 1 0;");
    }

    private static FlueStack greatest() {
        return Due.told("size 10 16;hearth 14 9 0;hearth 0 0 0;");
    }

    private static void lastOfTheWall() {
        for (int i = 0; i < 2; i++) {
            Supplier<FlueStack> x = i == 0 ? CallEdgesTest::least : CallEdgesTest::greatest;
            int column = i == 0 ? 1 : 9, course = i == 0 ? 1 : 15;
            edges("brick", x, BAD, (s, n) -> s.brick(n[0], n[1]), of(0, 0), of(0, course), of(0, column));
            edges("wind", x, NO, (s, n) -> s.wind(0, n[0], 9), of(0), of(0, column));
            edges("mark", x, BAD, (s, n) -> s.mark(n[0], n[1]), of(0, 0), of(0, course), of(0, column));
            edges("more", x, BAD, (s, n) -> s.more(0, n[0], 0), of(0), of(0, course - 1));
            edges("way", x, NO, (s, n) -> s.way(0, n[0]), of(course), of(course - 1, course));
            edges("turn", x, NO, (s, n) -> s.turn(0, n[0], 1), of(course), of(course, course));
            edges("moved", x, BAD, (s, n) -> s.moved(n[0], 0), of(0), of(0, 1023));
        }
    }

    // ---- FULL, and what goes ahead of it

    private static FlueStack bytes(int length) {
        FlueStack x = new FlueStack();
        Due.write(x, "cold 1 1;" + " ".repeat(length - 9));
        return x;
    }

    private static void textIsFull() {
        for (int n = 1; n <= 8; n++) {
            int fits = 300 - n;
            Due.due("type up to the last byte", bytes(fits).type(0x2020202020202020L, n), 300);
            for (int i = 1; i <= n; i++) {
                int length = fits + i;
                FlueStack x = bytes(length), y = bytes(length);
                Due.due("type " + n + " beyond " + length, x.type(0x7878787878787878L, n), FULL);
                Due.due("as many bytes as before", x.count(4), length);
                Due.due("type " + n + " beyond changes nothing", Whole.of(x), Whole.of(y));
            }
        }
        for (int n : outside(of(1, 8))) {
            FlueStack x = bytes(300);
            Due.due("BAD ahead of FULL", x.type(0, n), BAD);
            Due.due("BAD ahead of FULL, and nothing came", x.count(4), 300);
        }
        FlueStack x = bytes(300);
        Due.due("a full text is cleared", x.clear(), 300);
        Due.due("and has room for all", x.type(0, 8), 8);
        x = bytes(300);
        Due.due("a full text is read", x.wall(), 0);
        Due.due("and empty then", x.count(4), 0);
        Due.due("with room for more", x.type(-1, 1), 1);
    }

    private static void longsOfAnySize() {
        long[] longs = {Long.MIN_VALUE, Long.MIN_VALUE + 1, -1, 0, 1, 255, 256, 1L << 31, 1L << 32, Long.MAX_VALUE - 1,
            Long.MAX_VALUE};
        for (long v : longs) {
            for (int n = 1; n <= 8; n++) {
                FlueStack x = new FlueStack();
                Due.due("type " + v, x.type(v, n), n);
                Due.due("type " + v + " again", x.type(v, n), 2 * n);
                Due.due("none of these is a wall: " + v, x.wall(), -10);
            }
        }
        // only the lowest n bytes come, whatever stands above them
        String text = "size 3 7;beam 6 0 2;cold 2 2;hearth 5 1 42;";
        for (int n = 1; n <= 8; n++) {
            for (long above : new long[] {0, -1, Long.MIN_VALUE, 0x2020202020202020L}) {
                FlueStack x = new FlueStack();
                for (int i = 0; i < text.length(); i += n) {
                    String piece = text.substring(i, Math.min(text.length(), i + n));
                    int bits = 8 * piece.length();
                    x.type(bits == 64 ? Due.bytes(piece) : above << bits | Due.bytes(piece), piece.length());
                }
                Due.due("in pieces of " + n, x.wall(), 1);
                Due.due("in pieces of " + n + ", NEED", x.hearth(0, 2), 42);
            }
        }
    }

    private static FlueStack marked() {
        FlueStack x = three();
        for (int i = 3; i <= 6; i++) {
            Due.due("mark " + i, x.mark(4, 2), i);
        }
        return x;
    }

    private static void marksAreFull() {
        Supplier<FlueStack> x = CallEdgesTest::marked;
        refused("a seventh mark", x, FULL, (s, n) -> s.mark(n[0], n[1]), 4, 2);
        refused("a seventh mark", x, FULL, (s, n) -> s.mark(n[0], n[1]), 0, 0);
        for (int beyond : outside(of(0, 4))) {
            refused("BAD ahead of FULL, course", x, BAD, (s, n) -> s.mark(n[0], 0), beyond);
        }
        for (int beyond : outside(of(0, 5))) {
            refused("BAD ahead of FULL, column", x, BAD, (s, n) -> s.mark(0, n[0]), beyond);
        }
        FlueStack s = marked();
        Due.due("six are kept", s.keep(1), 6);
        Due.due("one comes back", s.back(0), 1);
        Due.due("then there is room", s.mark(0, 0), 2);
        Due.due("six come back", s.back(1), 6);
        Due.due("then there is none", s.mark(0, 0), FULL);
    }

    // ---- STATE, and what goes ahead of it

    private static FlueStack narrow() {
        return busy("size 6 5;hearth 0 1 9;hearth 0 2 20;hearth 3 1 3;beam 4 0 2;");
    }

    private static void stateOfTake() {
        Supplier<FlueStack> x = CallEdgesTest::narrow;
        refused("two that stand too near", x, STATE, (s, n) -> s.take(n[0]), 3);
        refused("one that has no way", x, STATE, (s, n) -> s.take(n[0]), 4);
        refused("all of them", x, STATE, (s, n) -> s.take(n[0]), 7);
        refused("none is BAD, whatever the rest", x, BAD, (s, n) -> s.take(n[0]), 0);
        refused("another one than those is BAD, too", x, BAD, (s, n) -> s.take(n[0]), 11);
        Due.due("one that has a way", narrow().take(1), 1);
    }

    private static FlueStack outOfTheWall() {
        FlueStack x = three();
        x.turn(0, 1, -1);
        return x;
    }

    private static FlueStack inABeam() {
        FlueStack x = three();
        x.turn(1, 3, 0);
        x.turn(1, 2, 0);
        return x;
    }

    private static FlueStack tooNear() {
        FlueStack x = three();
        x.turn(1, 2, 0);
        return x;
    }

    private static FlueStack crossed() {
        FlueStack x = Due.told("size 6 5;hearth 0 2 0;hearth 0 3 0;");
        x.tune(0, 0);
        x.turn(0, 4, 1);
        x.turn(1, 4, -1);
        return x;
    }

    private static void stateOfMoved() {
        List<Supplier<FlueStack>> ill = List.of(CallEdgesTest::outOfTheWall, CallEdgesTest::inABeam, CallEdgesTest::tooNear,
                CallEdgesTest::crossed);
        for (int i = 0; i < ill.size(); i++) {
            Supplier<FlueStack> x = ill.get(i);
            Due.due("the trouble is", x.get().judge(0), i + 1);
            for (int columns : of(0, 1, 512, 1023)) {
                refused("ill judged, how many", x, STATE, (s, n) -> s.moved(n[0], 0), columns);
                refused("ill judged, the set", x, STATE, (s, n) -> s.moved(n[0], 1), columns);
            }
            for (int beyond : outside(of(0, 1023))) {
                refused("BAD ahead of STATE, columns", x, BAD, (s, n) -> s.moved(n[0], 0), beyond);
            }
            for (int beyond : outside(of(0, 1))) {
                refused("BAD ahead of STATE, what", x, BAD, (s, n) -> s.moved(0, n[0]), beyond);
            }
        }
    }

    private static void stateOfBack() {
        refused("image 1 was never kept", CallEdgesTest::three, STATE, (s, n) -> s.back(n[0]), 1);
        refused("image 0 of a new stack", FlueStack::new, STATE, (s, n) -> s.back(n[0]), 0);
        refused("image 1 of a new stack", FlueStack::new, STATE, (s, n) -> s.back(n[0]), 1);
        for (int beyond : outside(of(0, 1))) {
            refused("BAD ahead of STATE", FlueStack::new, BAD, (s, n) -> s.back(n[0]), beyond);
        }
        FlueStack x = three();
        x.wall();
        for (int image = 0; image <= 1; image++) {
            Due.due("another wall's image " + image, x.back(image), STATE);
        }
        // an image can be kept of no hearths and no marks
        x = new FlueStack();
        Due.due("keep of nothing", x.keep(1), 0);
        Due.due("back to nothing", x.back(1), 0);
        Due.due("the other one is not kept", x.back(0), STATE);
    }

    // ---- what else changes nothing

    private static FlueStack faulty() {
        FlueStack x = three();
        Due.write(x, "cold");
        return x;
    }

    private static void faultsChangeNothing() {
        refused("a wall with a fault at its end", CallEdgesTest::faulty, -10 - 46, (s, n) -> s.wall());
        FlueStack x = faulty();
        for (int i = 0; i < 5; i++) {
            Due.due("the same fault again", x.wall(), -56);
        }
        Due.due("what follows mends it", x.type(Due.bytes(" 3 3;"), 5), 51);
        Due.due("and it is read", x.wall(), 1);
        Due.due("both cold items are in it", x.brick(0, 3), 2);
    }

    private static void asksChangeNothing() {
        Call[] asks = {(s, n) -> s.brick(0, 0), (s, n) -> s.hearth(0, 0), (s, n) -> s.many(0), (s, n) -> s.one(0, -1),
            (s, n) -> s.together(7, 0), (s, n) -> s.share(0), (s, n) -> s.more(5, 1, 0), (s, n) -> s.way(0, 1),
            (s, n) -> s.judge(0), (s, n) -> s.plan(0, 3), (s, n) -> s.draw(0, 0), (s, n) -> s.smokes(0, 1, 0),
            (s, n) -> s.mend(0), (s, n) -> s.guess(0), (s, n) -> s.count(0), (s, n) -> s.trace()};
        String untouched = Whole.of(three());
        for (int i = 0; i < asks.length; i++) {
            Call ask = asks[i];
            FlueStack x = three();
            long first = ask.of(x, of());
            Due.due("asked again, " + i, ask.of(x, of()), first);
            Due.due("what stands behind an ask, " + i, Whole.of(x), untouched);
        }
        FlueStack x = Due.told("size 7 4;hearth 0 0 0;hearth 0 3 0;hearth 0 6 0;");
        x.turn(1, 1, 1);
        Due.due("moved", x.moved(16, 1), 2);
        Due.due("moved is but asked", x.way(1, 3), 4);
        Due.due("moved bars nothing", x.count(5), 0);
        Due.due("moved again", x.moved(16, 1), 2);
        Due.due("nothing to move", x.moved(1023, 1), NONE);
    }
}
