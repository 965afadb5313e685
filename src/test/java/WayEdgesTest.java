/** WAYS, BENDS, LEANS, ONE, TOGETHER, BEST, SHARE and MORE, sentence by sentence: each with its edges. */
public final class WayEdgesTest {
    private static final int BAD = -1, NONE = -9;

    private WayEdgesTest() {
    }

    public static void main(String[] args) {
        leastWall();
        stepsOfAWay();
        sidesOfTheWall();
        barredBricks();
        manyOfAll();
        leansAndBends();
        fewestBendsThenLeansThenColumns();
        noneOfOne();
        belowItsOwnCourse();
        gapOfEachSize();
        gapInEachCourse();
        gapFromTheFirstCourseOfBoth();
        leftStaysLeft();
        breadth();
        bestOfSeveral();
        bestByColumns();
        oneAloneTogether();
        noneOfTogether();
        shareOfNone();
        shareOfSeveral();
        moreBesideNone();
        moreInEachCourse();
        moreBesideAll();
        moreNowhere();
        Due.finish("WayEdgesTest");
    }

    private static void due(String call, long got, long want) {
        Due.due(call, got, want);
    }

    private static FlueStack told(String text) {
        return Due.told(text);
    }

    private static void ways(String call, FlueStack x, int h, int... columns) {
        int own = x.hearth(h, 0);
        for (int i = 0; i < columns.length; i++) {
            due(call + ", hearth " + h + " in course " + (own + i), x.way(h, own + i), columns[i]);
        }
    }

    private static void one(String call, FlueStack x, int h, int bends, int leans, int... columns) {
        due(call + ", BENDS", x.one(h, -1), bends);
        due(call + ", LEANS", x.one(h, -2), leans);
        int own = x.hearth(h, 0);
        for (int i = 0; i < columns.length; i++) {
            due(call + ", in course " + (own + i), x.one(h, own + i), columns[i]);
        }
    }

    private static void together(String call, FlueStack x, int set, int breadth, int leans) {
        due(call + ", BREADTH", x.together(set, 0), breadth);
        due(call + ", LEANS", x.together(set, 1), leans);
    }

    // ---- a WAY: from its own COURSE on to the last one

    private static void leastWall() {
        FlueStack x = told("size 2 2;hearth 0 0 0;hearth 0 1 0;");
        due("two ways", x.many(0), 2);
        due("two ways of the other one", x.many(1), 2);
        one("straight up", x, 0, 0, 0, 0, 0);
        one("straight up", x, 1, 0, 0, 1, 1);
        due("too near with a GAP of 1", x.together(3, 0), NONE);
        x.tune(0, 0);
        together("side by side", x, 3, 2, 0);
        due("one more beside 0", x.more(1, 0, 0), 1);
        due("one more beside 0, where", x.more(1, 0, 1), 1);
        due("one more beside both", x.more(3, 0, 0), 0);
        due("one more beside none", x.more(0, 0, 0), 2);
    }

    private static void stepsOfAWay() {
        for (int c = 0; c <= 6; c++) {
            // in the last course one column alone is free
            String free = (c > 0 ? "beam 1 0 " + (c - 1) + ";" : "") + (c < 6 ? "beam 1 " + (c + 1) + " 6;" : "");
            FlueStack x = told("size 7 2;" + free + "hearth 0 3 0;");
            boolean near = c >= 2 && c <= 4;
            due("a step from 3 to " + c, x.many(0), near ? 1 : 0);
            due("its LEANS", x.one(0, -2), near ? Math.abs(c - 3) : NONE);
        }
        FlueStack x = told("size 10 16;hearth 14 4 0;hearth 0 4 0;");
        due("one step from the last course but one", x.many(0), 3);
        due("its column there", x.one(0, 14), 4);
        due("and in the last one", x.one(0, 15), 4);
        due("fifteen steps", x.one(1, 15), 4);
    }

    private static void sidesOfTheWall() {
        FlueStack x = told("size 10 2;hearth 0 0 0;hearth 0 9 0;hearth 0 8 0;");
        due("at the left side", x.many(0), 2);
        due("at the right side", x.many(1), 2);
        due("beside it", x.many(2), 3);
        x = told("size 2 16;hearth 0 0 0;hearth 14 1 0;");
        due("two columns: two for each step", x.many(0), 32768);
        due("one step", x.many(1), 2);
    }

    private static void barredBricks() {
        FlueStack x = told("size 3 4;beam 0 1 1;beam 1 0 1;hearth 0 1 0;hearth 0 0 0;hearth 1 0 0;");
        due("its own brick is barred", x.many(0), 0);
        due("the next ones are", x.many(1), 0);
        due("its own, in a course above", x.many(2), 0);
        x = told("size 3 4;beam 3 0 2;hearth 0 1 0;hearth 2 1 0;");
        due("the last course is", x.many(0), 0);
        due("the last course is, one step up", x.many(1), 0);
        // what is barred below does not matter
        x = told("size 3 4;beam 0 0 2;beam 1 0 2;hearth 2 1 0;");
        due("below its own", x.many(0), 3);
        x = told("size 3 4;beam 2 0 0;beam 2 2 2;hearth 0 0 0;");
        due("by one brick", x.many(0), 2 * 3);
    }

    private static void manyOfAll() {
        due("the greatest wall", told("size 10 16;hearth 0 4 0;").many(0), 11809035);
        due("its other middle", told("size 10 16;hearth 0 5 0;").many(0), 11809035);
        due("one column less at the side", told("size 2 16;hearth 0 1 0;").many(0), 32768);
        FlueStack x = told("size 10 16;hearth 0 4 0;hearth 0 4 0;hearth 0 4 0;");
        due("others are not in the way", x.many(2), 11809035);
    }

    // ---- LEANS, BENDS, ONE

    private static void leansAndBends() {
        one("one step leans, and bends not", told("size 3 2;beam 1 0 1;hearth 0 1 0;"), 0, 0, 1, 1, 2);
        one("two steps lean, and bend not", told("size 3 3;beam 2 0 1;hearth 0 0 0;"), 0, 0, 2, 0, 1, 2);
        one("one of two bends", told("size 3 3;beam 2 0 1;hearth 0 1 0;"), 0, 1, 1, 1, 1, 2);
        // 4 steps: left, then right: from -1 to 1 is one bend
        one("from side to side", told("size 3 3;beam 1 1 2;beam 2 0 0;hearth 0 1 0;"), 0, 1, 2, 1, 0, 1);
        FlueStack x = told("size 2 16;" + zigzag() + "hearth 0 0 0;");
        one("bends in all steps but the first", x, 0, 14, 15, 0, 1, 0, 1, 0, 1, 0, 1, 0, 1, 0, 1, 0, 1, 0, 1);
        due("the only way", x.many(0), 1);
        one("all steps lean", told("size 10 10;beam 9 0 8;hearth 0 0 0;"), 0, 0, 9, 0, 1, 2, 3, 4, 5, 6, 7, 8, 9);
    }

    /** Columns 0 and 1 in turn are free, 0 in course 0. */
    private static String zigzag() {
        StringBuilder text = new StringBuilder();
        for (int r = 1; r < 16; r++) {
            int barred = 1 - r % 2;
            text.append("beam ").append(r).append(' ').append(barred).append(' ').append(barred).append(';');
        }
        return text.toString();
    }

    private static void fewestBendsThenLeansThenColumns() {
        // to column 1 with a bend and a lean, to column 3 with no bend and three leans
        one("bends go ahead of leans", told("size 4 4;beam 3 0 0;beam 3 2 2;hearth 0 0 0;"), 0, 0, 3, 0, 1, 2, 3);
        // column 1 in the last course: a bend wherever the one lean is; the last step is the first by columns
        one("leans, then columns", told("size 4 5;beam 4 0 0;beam 4 2 3;hearth 0 0 0;"), 0, 1, 1, 0, 0, 0, 0, 1);
        // to the left the least columns lean first
        one("leans, then columns, to the left", told("size 4 5;beam 4 0 1;beam 4 3 3;hearth 0 3 0;"), 0, 1, 1, 3, 2, 2, 2, 2);
        one("to both sides alike: the left", told("size 3 2;beam 1 1 1;hearth 0 1 0;"), 0, 0, 1, 1, 0);
        // around a beam: back again is one bend more
        one("around a beam", told("size 3 4;beam 2 1 1;hearth 0 1 0;"), 0, 1, 1, 1, 0, 0, 0);
        one("nothing in the way", told("size 10 16;hearth 0 9 0;"), 0, 0, 0, 9, 9, 9, 9, 9, 9, 9, 9, 9, 9, 9, 9, 9, 9, 9, 9);
    }

    private static void noneOfOne() {
        FlueStack x = told("size 3 3;beam 1 0 2;hearth 0 1 0;");
        for (int r = -2; r <= 2; r++) {
            due("NONE in " + r, x.one(0, r), NONE);
        }
        x = told("size 3 3;beam 0 1 1;beam 1 1 1;hearth 0 1 0;hearth 1 1 0;");
        for (int h = 0; h <= 1; h++) {
            for (int r = -2; r <= 2; r++) {
                due("its own brick is barred, NONE in " + r, x.one(h, r), h == 1 && r == 0 ? BAD : NONE);
            }
        }
        due("BAD ahead of NONE", x.one(0, 3), BAD);
        due("BAD ahead of NONE", x.one(0, -3), BAD);
        x = told("size 3 3;beam 2 2 2;hearth 1 2 0;hearth 1 2 0;beam 2 1 1;");
        due("NONE from a side", x.one(1, -1), NONE);
        due("none in a course below its own is BAD", x.one(1, 0), BAD);
    }

    private static void belowItsOwnCourse() {
        for (int own = 0; own <= 14; own++) {
            FlueStack x = told("size 3 16;hearth " + own + " 1 0;");
            due("its own course", x.one(0, own), 1);
            due("its own course in the plan", x.way(0, own), 1);
            due("the last course", x.one(0, 15), 1);
            due("no course above", x.one(0, 16), BAD);
            for (int r = 0; r < own; r++) {
                due("below", x.one(0, r), BAD);
                due("below in the plan", x.way(0, r), -1000000);
            }
        }
    }

    // ---- TOGETHER: differ by more than GAP, and stay on their sides

    private static void gapOfEachSize() {
        for (int gap = 0; gap <= 3; gap++) {
            for (int apart = 0; apart <= 5; apart++) {
                FlueStack x = told("hearth 0 2 0;hearth 0 " + (2 + apart) + " 0;hearth 0 " + (2 + apart) + " 0;");
                x.tune(0, gap);
                boolean well = apart > gap;
                due("GAP " + gap + ", apart " + apart, x.together(3, 0), well ? gap + 2 : NONE);
                // they lean towards one another until they are as near as may be
                due("GAP " + gap + ", apart " + apart + ", LEANS", x.together(3, 1), well ? apart - gap - 1 : NONE);
                due("the other one's brick", x.together(6, 0), NONE);
            }
        }
    }

    private static void gapInEachCourse() {
        for (int gap = 0; gap <= 3; gap++) {
            for (int r = 0; r < 5; r++) {
                for (int free = 2; free <= 5; free++) {
                    // in course r they must stand within columns 2 .. free + 1
                    String narrow = "beam " + r + " 0 1;beam " + r + " " + (free + 2) + " 9;";
                    FlueStack x = told("size 10 5;" + narrow + "hearth 0 2 0;hearth 0 " + (free + 1) + " 0;");
                    x.tune(0, gap);
                    due("GAP " + gap + " in " + free + " columns of course " + r, x.together(3, 0) == NONE ? 0 : 1,
                            free - 1 > gap ? 1 : 0);
                }
            }
        }
    }

    private static void gapFromTheFirstCourseOfBoth() {
        // hearth 1 begins where hearth 0 has been, and is none of its matter before
        FlueStack x = told("size 5 3;hearth 0 2 0;hearth 1 2 0;");
        due("it can't get out of the way", x.together(3, 0), NONE);
        x.tune(0, 0);
        together("it leans out of the way", x, 3, 2, 1);
        x.take(3);
        ways("it leans to the left", x, 0, 2, 1, 1);
        ways("and the other one stays", x, 1, 2, 2);
        x = told("size 5 4;hearth 0 2 0;hearth 2 2 0;");
        together("in time", x, 3, 3, 2);
        x.tune(0, 3);
        due("a wide GAP", x.together(3, 0), NONE);
    }

    private static void leftStaysLeft() {
        // one begins on either side of the other one, and stays there
        for (int side = 0; side <= 1; side++) {
            FlueStack x = told("size 7 4;hearth 0 3 0;hearth 1 " + (side == 0 ? 1 : 5) + " 0;");
            x.take(3);
            due("sides " + side, x.way(1, 3) < x.way(0, 3) ? 0 : 1, side);
        }
        // a third one begins between two others, or there is no room for it
        FlueStack x = told("size 5 3;hearth 0 0 0;hearth 0 4 0;hearth 1 2 0;");
        together("between", x, 7, 5, 0);
        x = told("size 5 3;hearth 0 1 0;hearth 0 4 0;hearth 1 2 0;");
        together("one makes room", x, 7, 5, 1);
        x = told("size 5 3;hearth 0 1 0;hearth 0 3 0;hearth 1 2 0;");
        together("both make room", x, 7, 5, 2);
        x = told("size 4 3;hearth 0 0 0;hearth 0 3 0;hearth 1 1 0;");
        due("no room", x.together(7, 0), NONE);
        x.tune(0, 0);
        together("room without a GAP", x, 7, 3, 1);
    }

    // ---- BEST

    private static void breadth() {
        due("one alone", told("hearth 0 0 0;").together(1, 0), 1);
        FlueStack x = told("size 10 2;beam 1 1 8;hearth 0 0 0;hearth 0 9 0;");
        together("from side to side", x, 3, 10, 0);
        x = told("size 10 16;hearth 0 0 0;hearth 0 9 0;hearth 0 4 0;");
        together("as near as may be, three", x, 7, 5, 5);
        x.tune(0, 0);
        together("as near as may be, no GAP", x, 7, 3, 7);
        x.tune(0, 3);
        together("as near as may be, GAP 3", x, 7, 9, 1);
        x = told("size 8 2;hearth 0 0 0;hearth 0 4 0;hearth 0 7 0;");
        x.tune(0, 3);
        due("no room for GAP 3", x.together(7, 0), NONE);
        x = told("size 9 2;hearth 0 0 0;hearth 0 4 0;hearth 0 8 0;");
        x.tune(0, 3);
        together("room for GAP 3", x, 7, 9, 0);
        // the least BREADTH goes ahead of the fewest LEANS, however many
        x = told("size 10 16;hearth 0 0 0;hearth 0 9 0;");
        x.tune(0, 0);
        together("eight leans for it", x, 3, 2, 8);
    }

    private static void bestOfSeveral() {
        // only the last course counts for the BREADTH
        FlueStack x = told("size 9 6;beam 3 2 6;hearth 0 1 0;hearth 0 7 0;");
        together("a beam holds them apart", x, 3, 3, 4);
        // four steps are left above it, for one in two
        x = told("size 9 5;beam 3 2 6;hearth 0 1 0;hearth 0 7 0;");
        together("two courses are too few", x, 3, 5, 2);
        // a narrow way costs leans: all of both hearths count, but none below their own course
        x = told("size 9 6;hearth 4 1 0;hearth 4 7 0;");
        together("from their own course on", x, 3, 5, 2);
    }

    private static void bestByColumns() {
        FlueStack x = told("size 6 4;hearth 0 0 0;hearth 0 5 0;");
        due("take", x.take(3), 1);
        ways("the least columns in course 1", x, 0, 0, 0, 0, 0);
        ways("the least columns in course 1", x, 1, 5, 4, 3, 2);
        x = told("size 6 4;hearth 0 5 0;hearth 0 0 0;");
        x.take(3);
        ways("told the other way about", x, 0, 5, 4, 3, 2);
        ways("told the other way about", x, 1, 0, 0, 0, 0);
        // the left one must lean to the right: as late as may be, for COURSES go ahead of HEARTHS
        x = told("size 6 5;beam 4 0 0;hearth 0 0 0;hearth 0 4 0;");
        x.take(3);
        ways("as late as may be", x, 0, 0, 0, 0, 0, 1);
        ways("as soon as may be", x, 1, 4, 3, 3, 3, 3);
        // in a course the lesser hearth goes ahead: it leans to the left, the other one to the right
        x = told("size 7 3;hearth 0 3 0;hearth 1 3 0;");
        x.tune(0, 0);
        x.take(3);
        ways("the lesser hearth to the left", x, 0, 3, 2, 2);
        x = told("size 7 3;hearth 1 3 0;hearth 0 3 0;");
        x.tune(0, 0);
        x.take(3);
        ways("the greater hearth to the left, too", x, 1, 3, 2, 2);
    }

    private static void oneAloneTogether() {
        FlueStack x = told("size 6 4;beam 3 0 0;hearth 0 0 0;hearth 2 5 0;hearth 0 0 0;");
        for (int h = 0; h < 3; h += 2) {
            together("one alone", x, 1 << h, 1, 1);
            x.take(1 << h);
            // with the fewest LEANS, and not the fewest BENDS; as late as may be
            ways("one alone", x, h, 0, 0, 0, 1);
        }
        together("straight", x, 2, 1, 0);
        // fewest LEANS differ from fewest BENDS
        x = told("size 4 4;beam 3 0 0;beam 3 2 2;hearth 0 0 0;");
        due("ONE by bends", x.one(0, -2), 3);
        due("BEST by leans", x.together(1, 1), 1);
    }

    private static void noneOfTogether() {
        FlueStack x = told("size 6 4;beam 2 0 5;hearth 0 0 0;hearth 2 5 0;hearth 1 3 0;");
        for (int set = 1; set <= 7; set++) {
            together("no way at all, set " + set, x, set, NONE, NONE);
        }
        x = told("size 6 4;beam 0 0 0;hearth 0 0 0;hearth 2 5 0;");
        together("its own brick is barred", x, 1, NONE, NONE);
        together("the other one alone", x, 2, 1, 0);
        together("not both", x, 3, NONE, NONE);
        due("sets of hearths that there are not", x.together(4, 0), BAD);
        due("sets of hearths that there are not", x.together(5, 0), BAD);
    }

    // ---- SHARE

    private static void share(String call, FlueStack x, int set) {
        due(call + ", the set", x.share(0), set);
        due(call + ", how many", x.share(1), Integer.bitCount(set));
    }

    private static void shareOfNone() {
        share("a new stack", new FlueStack(), 0);
        share("no hearths", told("size 4 4;"), 0);
        share("none has a way", told("size 3 3;beam 2 0 2;hearth 0 0 0;hearth 0 1 0;hearth 0 2 0;"), 0);
        share("one", told("hearth 0 0 0;"), 1);
        share("the second alone", told("beam 0 0 0;hearth 0 0 0;hearth 0 1 0;"), 2);
        share("the third alone", told("beam 0 0 1;hearth 0 0 0;hearth 0 1 0;hearth 0 2 0;"), 4);
    }

    private static void shareOfSeveral() {
        share("all", told("hearth 0 0 0;hearth 0 2 0;hearth 0 4 0;"), 7);
        share("0 and 1 go ahead of 0 and 2", told("hearth 0 0 0;hearth 0 4 0;hearth 0 5 0;"), 3);
        share("0 and 2", told("hearth 0 3 0;hearth 0 4 0;hearth 0 5 0;"), 5);
        share("1 and 2", told("hearth 0 4 0;hearth 0 3 0;hearth 0 5 0;"), 6);
        share("of single ones the first", told("hearth 0 4 0;hearth 0 4 0;hearth 0 4 0;"), 1);
        FlueStack x = told("hearth 0 0 0;hearth 0 4 0;hearth 0 7 0;");
        x.tune(0, 3);
        share("with GAP 3: 4 and 7 are too near", x, 3);
        x.tune(0, 2);
        share("with GAP 2", x, 7);
    }

    // ---- MORE

    private static void more(String call, FlueStack x, int set, int course, int number, int first) {
        due(call + ", how many", x.more(set, course, 0), number);
        due(call + ", the first", x.more(set, course, 1), first);
    }

    private static void moreBesideNone() {
        more("a new stack", new FlueStack(), 0, 8, 10, 0);
        due("the last course of a new stack", new FlueStack().more(0, 9, 0), BAD);
        more("a beam there", told("beam 3 0 2;"), 0, 3, 7, 3);
        more("all barred there", told("beam 3 0 9;"), 0, 3, 0, NONE);
        more("all barred above", told("beam 3 0 9;"), 0, 2, 0, NONE);
        more("what is barred below does not matter", told("beam 3 0 9;"), 0, 4, 10, 0);
        more("hearths that are not of the set do not", told("hearth 0 0 0;hearth 0 0 0;hearth 0 0 0;"), 0, 0, 10, 0);
        more("one alone is free", told("size 10 4;beam 0 0 8;"), 0, 0, 1, 9);
    }

    private static void moreInEachCourse() {
        for (int h = 2; h <= 16; h++) {
            FlueStack x = told("size 6 " + h + ";hearth 0 0 0;");
            more("course 0", x, 1, 0, 4, 2);
            due("the last course but one", x.more(1, h - 2, 0) > 0 ? 1 : 0, 1);
            due("the last course", x.more(1, h - 1, 0), BAD);
            due("a course more", x.more(1, h, 0), BAD);
            due("a course less", x.more(1, -1, 0), BAD);
        }
        // above the first course the other one gets out of its way, as far as it has come
        FlueStack x = told("size 6 6;hearth 0 0 0;");
        more("course 1", x, 1, 1, 4, 2);
        more("course 2: it leans to 2 below 0", x, 1, 2, 5, 0);
        more("course 3: to 3 below 0 and 1", x, 1, 3, 6, 0);
        // below the course of the other one
        x = told("size 6 6;hearth 4 0 0;");
        more("below it", x, 1, 0, 6, 0);
        more("right below it", x, 1, 3, 5, 1);
        more("beside it", x, 1, 4, 4, 2);
    }

    private static void moreBesideAll() {
        FlueStack x = told("size 9 3;hearth 0 0 0;hearth 0 4 0;hearth 0 8 0;");
        more("beside 0", x, 1, 0, 7, 2);
        more("beside 1", x, 2, 0, 6, 0);
        more("beside 2", x, 4, 0, 7, 0);
        more("beside 0 and 1", x, 3, 0, 4, 2);
        more("beside 0 and 2", x, 5, 0, 5, 2);
        more("beside 1 and 2", x, 6, 0, 4, 0);
        due("beside all three", x.more(7, 0, 0), BAD);
        due("beside all three, the first", x.more(7, 0, 1), BAD);
        x = told("size 9 3;hearth 0 0 0;hearth 0 4 0;");
        more("all two of two", x, 3, 0, 4, 2);
        due("three of two", x.more(7, 0, 0), BAD);
        due("a third of two", x.more(4, 0, 0), BAD);
        x = told("size 9 3;hearth 0 0 0;");
        more("all of one", x, 1, 0, 7, 2);
        due("two of one", x.more(3, 0, 0), BAD);
    }

    private static void moreNowhere() {
        more("beside two that do not go together", told("hearth 0 3 0;hearth 0 3 0;"), 3, 0, 0, NONE);
        more("beside one that has no way", told("beam 1 0 2;hearth 0 1 0;"), 1, 5, 0, NONE);
        FlueStack x = told("size 4 3;hearth 0 1 0;");
        x.tune(0, 3);
        more("with a wide GAP", x, 1, 0, 0, NONE);
        x.tune(0, 1);
        more("with less", x, 1, 0, 1, 3);
        x.tune(0, 0);
        more("with none", x, 1, 0, 3, 0);
    }
}
