import java.util.Arrays;

/** THE PLAN and how it draws, MARKS, KINDS, IMAGES, a WALL read anew, 512 calls: each sentence with its edges. */
public final class PlanEdgesTest {
    private static final int BAD = -1, STATE = -2, NONE = -9, NO = -1000000;

    private PlanEdgesTest() {
    }

    public static void main(String[] args) {
        tunesOfANewOne();
        tunesFromFirstToLast();
        windsFromFirstToLast();
        straightUpAtFirst();
        taken();
        turned();
        turnedFarOff();
        judgedColumns();
        judgedGap();
        judgedSides();
        judgedInOrder();
        drawn();
        coldCourses();
        windOfTheLastColumn();
        smokesBelowItsNeed();
        smokesBelowAnother();
        mended();
        mendedInAnyQuarter();
        doors();
        moved();
        movedLeastSet();
        movedOfNone();
        movedColumns();
        marks();
        guessFromItsOwnCourse();
        guessOfTwoInOneCourse();
        kinds();
        images();
        readAnew();
        lastOfItsCalls();
        Due.finish("PlanEdgesTest");
    }

    private static void due(String call, long got, long want) {
        Due.due(call, got, want);
    }

    private static FlueStack told(String text) {
        return Due.told(text);
    }

    private static void ways(String call, FlueStack x, int h, int... columns) {
        int own = x.hearth(h, 0);
        for (int i = 0; i < columns.length; i++) {
            due(call + ", hearth " + h + " in course " + (own + i), x.way(h, own + i), columns[i]);
        }
    }

    // ---- TUNES and WINDS

    private static void tunesOfANewOne() {
        int[] first = {1, 3, 1, 5, 1, 10};
        for (int i = 0; i < 6; i++) {
            due("tune at first", new FlueStack().tune(i, first[i]), first[i]);
            due("no wall needed", new FlueStack().tune(i, 1), first[i]);
        }
        due("no tune 6", new FlueStack().tune(6, 1), BAD);
        due("no tune -1", new FlueStack().tune(-1, 1), BAD);
    }

    private static void tunesFromFirstToLast() {
        int[] least = {0, 0, 0, 1, 0, 0}, most = {3, 20, 20, 20, 9, 99};
        for (int i = 0; i < 6; i++) {
            FlueStack x = new FlueStack();
            x.tune(i, least[i]);
            for (int v = least[i]; v <= most[i]; v++) {
                due("tune " + i + " was", x.tune(i, v), Math.max(least[i], v - 1));
                due("one less than the least", x.tune(i, least[i] - 1), BAD);
                due("one more than the most", x.tune(i, most[i] + 1), BAD);
            }
            due("tune " + i + " at last", x.tune(i, least[i]), most[i]);
            for (int other = 0; other < 6; other++) {
                if (other != i) {
                    int[] first = {1, 3, 1, 5, 1, 10};
                    due("another tune", x.tune(other, 1), first[other]);
                }
            }
        }
    }

    private static void windsFromFirstToLast() {
        for (int q = 0; q <= 3; q++) {
            FlueStack x = told("size 3 3;");
            for (int c = 0; c <= 2; c++) {
                due("no wind at first", x.wind(q, c, -9), 0);
                for (int v = -8; v <= 9; v++) {
                    due("wind was", x.wind(q, c, v), v - 1);
                }
                due("more", x.wind(q, c, 10), NO);
                due("less", x.wind(q, c, -10), NO);
                due("wind at last", x.wind(q, c, q), 9);
            }
            due("no such column", x.wind(q, 3, 0), NO);
            for (int other = 0; other <= 3; other++) {
                for (int c = 0; c <= 2; c++) {
                    due("of its quarter alone", x.wind(other, c, 0), other == q ? q : 0);
                }
            }
        }
        due("no hearth needed", new FlueStack().wind(3, 9, -9), 0);
        due("no column 10", new FlueStack().wind(3, 10, 0), NO);
    }

    // ---- THE PLAN, TAKEN, TURNED

    private static void straightUpAtFirst() {
        FlueStack x = told("size 10 16;beam 5 0 9;hearth 0 0 0;hearth 14 9 0;hearth 7 4 0;");
        for (int r = 0; r <= 15; r++) {
            due("from course 0", x.way(0, r), 0);
            due("from course 14", x.way(1, r), r < 14 ? NO : 9);
            due("from course 7", x.way(2, r), r < 7 ? NO : 4);
        }
        for (int h = 0; h < 3; h++) {
            due("no BENDS", x.plan(h, 0), 0);
            due("no LEANS", x.plan(h, 1), 0);
        }
    }

    private static void taken() {
        FlueStack x = told("size 7 4;hearth 0 1 0;hearth 2 5 0;hearth 0 3 0;");
        x.turn(0, 1, -1);
        x.turn(1, 3, 1);
        x.turn(2, 2, 1);
        due("take 0 and 2", x.take(5), 1);
        ways("taken", x, 0, 1, 1, 1, 1);
        ways("taken", x, 2, 3, 3, 3, 3);
        ways("kept", x, 1, 5, 6);
        due("take 1", x.take(2), 1);
        ways("taken", x, 1, 5, 5);
        x.turn(0, 3, 1);
        due("take all", x.take(7), 1);
        ways("taken by all", x, 0, 1, 1, 1, 1);
        ways("taken by all", x, 2, 3, 3, 3, 3);
        due("judged well", x.judge(0), NONE);
        // others that keep theirs may be in the way: TAKEN heeds the set alone
        x = told("size 5 3;hearth 0 2 0;hearth 0 2 0;");
        due("take one on another one's way", x.take(2), 1);
        due("it is too near then", x.judge(0), 3);
        due("not both", x.take(3), STATE);
    }

    private static void turned() {
        FlueStack x = told("size 9 6;hearth 1 4 0;");
        for (int d = -1; d <= 1; d++) {
            for (int was = -1; was <= 1; was++) {
                x.turn(0, 3, was);
                due("the step that was", x.turn(0, 3, d), was);
                ways("so much moved", x, 0, 4, 4, 4 + d, 4 + d, 4 + d);
            }
        }
        x.turn(0, 3, 0);
        x.turn(0, 5, 1);
        x.turn(0, 2, -1);
        ways("steps behind are the same", x, 0, 4, 3, 3, 3, 4);
        due("the last step was", x.turn(0, 5, -1), 1);
        due("the first step was", x.turn(0, 2, 1), -1);
        ways("first and last", x, 0, 4, 5, 5, 5, 4);
        for (int r = -1; r <= 1; r++) {
            due("no step into its own course or below", x.turn(0, r, 0), NO);
        }
        due("no step above the last course", x.turn(0, 6, 0), NO);
        due("a step of two", x.turn(0, 3, 2), NO);
        due("a step of two", x.turn(0, 3, -2), NO);
        ways("refused, and nothing changed", x, 0, 4, 5, 5, 5, 4);
        x = told("size 2 2;hearth 0 0 0;hearth 0 1 0;");
        due("the only step", x.turn(1, 1, -1), 0);
        due("it is turned", x.way(1, 1), 0);
        due("the other one is not", x.way(0, 1), 0);
    }

    private static void turnedFarOff() {
        FlueStack x = told("size 10 16;hearth 0 0 0;hearth 0 9 0;");
        for (int r = 1; r <= 15; r++) {
            x.turn(0, r, -1);
            x.turn(1, r, 1);
        }
        for (int r = 0; r <= 15; r++) {
            due("far to the left", x.way(0, r), -r);
            due("far to the right", x.way(1, r), 9 + r);
        }
        due("LEANS out of the wall", x.plan(0, 1), 15);
        due("BENDS out of the wall", x.plan(1, 0), 0);
        due("the lesser one is judged first", x.judge(1), 0);
        x.keep(0);
        due("and comes back so", x.back(0), 0);
        due("and comes back so", x.way(1, 15), 24);
    }

    // ---- JUDGED

    private static void judged(String call, FlueStack x, int trouble, int hearth, int course) {
        due(call + ", trouble", x.judge(0), trouble);
        due(call + ", hearth", x.judge(1), hearth);
        due(call + ", course", x.judge(2), course);
    }

    private static void judgedColumns() {
        judged("no hearths", new FlueStack(), NONE, NONE, NONE);
        FlueStack x = told("size 4 5;hearth 0 1 0;");
        judged("well", x, NONE, NONE, NONE);
        x.turn(0, 4, -1);
        judged("column 0", x, NONE, NONE, NONE);
        x.turn(0, 3, -1);
        judged("column -1 in the last course", x, 1, 0, 4);
        x.turn(0, 4, 0);
        x.turn(0, 3, 1);
        x.turn(0, 2, 1);
        judged("column W - 1", x, NONE, NONE, NONE);
        x.turn(0, 4, 1);
        judged("column W", x, 1, 0, 4);
        x.turn(0, 1, 1);
        judged("column W before", x, 1, 0, 3);
        judged("its own brick in course 0", told("size 4 5;beam 0 1 1;hearth 0 1 0;"), 2, 0, 0);
        judged("its own brick", told("size 4 5;beam 2 1 1;beam 3 1 1;hearth 2 1 0;"), 2, 0, 2);
        judged("below its own", told("size 4 5;beam 1 1 1;hearth 2 1 0;"), NONE, NONE, NONE);
        judged("in the last course", told("size 4 5;beam 4 0 3;hearth 0 1 0;"), 2, 0, 4);
        judged("beside a beam", told("size 4 5;beam 3 0 0;beam 3 2 3;hearth 0 1 0;"), NONE, NONE, NONE);
    }

    private static void judgedGap() {
        for (int gap = 0; gap <= 3; gap++) {
            for (int apart = 0; apart <= 5; apart++) {
                String text = "hearth 0 4 0;hearth 3 " + (4 + apart) + " 0;";
                FlueStack x = told(text);
                x.tune(0, gap);
                int near = apart <= gap ? 3 : NONE;
                judged("GAP " + gap + ", apart " + apart, x, near, near == 3 ? 1 : NONE, near == 3 ? 3 : NONE);
                x = told("hearth 3 4 0;hearth 0 " + (4 - Math.min(apart, 4)) + " 0;");
                x.tune(0, gap);
                near = Math.min(apart, 4) <= gap ? 3 : NONE;
                judged("to the left, GAP " + gap + ", apart " + apart, x, near, near == 3 ? 1 : NONE, near == 3 ? 3 : NONE);
            }
        }
        judged("in course 0", told("hearth 0 4 0;hearth 0 5 0;"), 3, 1, 0);
        judged("in course 0, to the left", told("hearth 0 4 0;hearth 0 3 0;"), 3, 1, 0);
        // the third one is too near to either of the two
        judged("near to 0", told("hearth 0 0 0;hearth 0 5 0;hearth 4 1 0;"), 3, 2, 4);
        judged("near to 1", told("hearth 0 0 0;hearth 0 5 0;hearth 4 6 0;"), 3, 2, 4);
        judged("near to none", told("hearth 0 0 0;hearth 0 5 0;hearth 4 2 0;"), NONE, NONE, NONE);
    }

    private static void judgedSides() {
        FlueStack x = told("size 6 5;hearth 0 2 0;hearth 0 3 0;");
        x.tune(0, 0);
        judged("side by side", x, NONE, NONE, NONE);
        x.turn(0, 1, 1);
        x.turn(1, 1, -1);
        judged("crossed in the first step", x, 4, 1, 1);
        x.turn(0, 1, 0);
        x.turn(1, 1, 0);
        x.turn(0, 4, 1);
        x.turn(1, 4, -1);
        judged("crossed in the last step", x, 4, 1, 4);
        x.turn(0, 4, 1);
        x.turn(1, 4, 1);
        judged("both lean", x, NONE, NONE, NONE);
        x = told("size 6 5;hearth 0 3 0;hearth 0 2 0;");
        x.tune(0, 0);
        judged("side by side, the greater one to the left", x, NONE, NONE, NONE);
        for (int r = 1; r <= 4; r++) {
            x.turn(0, r, -1);
            x.turn(1, r, 1);
            judged("crossed to the right", x, 4, 1, r);
            x.turn(0, r, 0);
            x.turn(1, r, 0);
        }
        // where one begins, the other one has no side yet: it came from the right to its left
        x = told("size 6 5;hearth 0 3 0;hearth 2 2 0;");
        x.tune(0, 0);
        x.turn(0, 1, -1);
        x.turn(0, 2, -1);
        judged("begun beside it", x, NONE, NONE, NONE);
        x.turn(0, 3, 1);
        x.turn(1, 3, -1);
        judged("crossed a course later", x, 4, 1, 3);
        // it stood in the column where the other one begins, and leaves it to either side
        for (int side = -1; side <= 1; side += 2) {
            for (int first = 0; first <= 1; first++) {
                x = told(first == 0 ? "size 6 5;hearth 0 2 0;hearth 2 2 0;" : "size 6 5;hearth 2 2 0;hearth 0 2 0;");
                x.tune(0, 0);
                x.turn(first, 2, side);
                judged("begun where it stood", x, NONE, NONE, NONE);
            }
        }
        // a third one crosses the second
        x = told("size 6 5;hearth 0 0 0;hearth 0 2 0;hearth 0 3 0;");
        x.tune(0, 0);
        x.turn(1, 2, 1);
        x.turn(2, 2, -1);
        judged("a third one", x, 4, 2, 2);
    }

    private static void judgedInOrder() {
        // 1 ahead of 3: out of the wall, and near to another one
        FlueStack x = told("size 6 5;hearth 0 0 0;hearth 0 1 0;");
        x.tune(0, 0);
        x.turn(0, 2, -1);
        x.turn(1, 2, -1);
        judged("a lesser hearth in the same course", x, 1, 0, 2);
        // 2 ahead of 3
        judged("2 ahead of 3", told("size 6 5;beam 3 2 2;hearth 0 0 0;hearth 3 2 0;hearth 3 2 0;"), 2, 1, 3);
        judged("2 ahead of 3, the same hearth", told("size 6 5;beam 3 2 2;hearth 3 3 0;hearth 3 2 0;"), 2, 1, 3);
        // 3 ahead of 4: it crossed 0, and stands too near to 1
        x = told("size 8 5;hearth 0 3 0;hearth 2 1 0;hearth 0 4 0;");
        x.tune(0, 0);
        x.turn(0, 2, 1);
        x.turn(2, 2, -1);
        judged("4 alone", x, 4, 2, 2);
        x = told("size 8 5;hearth 0 3 0;hearth 2 3 0;hearth 0 4 0;");
        x.tune(0, 0);
        x.turn(0, 2, 1);
        x.turn(2, 2, -1);
        judged("3 to 1 ahead of 4 to 0", x, 3, 2, 2);
        // a lesser course ahead of a lesser trouble and of a lesser hearth
        x = told("size 6 5;beam 3 1 1;hearth 0 1 0;hearth 2 2 0;");
        judged("3 in course 2 ahead of 2 in course 3", x, 3, 1, 2);
        x.tune(0, 0);
        judged("2 in course 3", x, 2, 0, 3);
        due("no such ask", x.judge(3), BAD);
        due("no such ask", x.judge(-1), BAD);
    }

    // ---- DRAW

    private static void drawn() {
        for (int own = 0; own <= 14; own++) {
            due("LIFT times COURSES above", told("size 4 16;hearth " + own + " 1 0;").draw(0, 0), 5 * (15 - own));
        }
        FlueStack x = told("size 9 16;cold 0 8;hearth 0 4 99;");
        for (int r = 1; r <= 15; r += 2) {
            x.turn(0, r, r % 4 == 1 ? 1 : -1);
        }
        due("the most BENDS", x.plan(0, 0), 14);
        due("all COLD", x.plan(0, 2), 16);
        x.tune(1, 20);
        x.tune(2, 20);
        x.tune(3, 1);
        x.wind(1, x.way(0, 15), -9);
        due("the least DRAW", x.draw(0, 1), 15 - 20 * 14 - 20 * 16 - 9);
        x.tune(1, 0);
        x.tune(2, 0);
        x.tune(3, 20);
        x.wind(1, x.way(0, 15), 9);
        due("the greatest DRAW", x.draw(0, 1), 15 * 20 + 9);
        due("in another quarter", x.draw(0, 0), 15 * 20);
        due("in no quarter", x.draw(0, 4), NO);
        due("in no quarter", x.draw(0, -1), NO);
        due("of no hearth", x.draw(1, 0), NO);
    }

    private static void coldCourses() {
        FlueStack x = told("size 4 6;cold 0 0;cold 3 3;hearth 2 0 0;hearth 0 3 0;");
        due("from its own COURSE on", x.plan(0, 2), 4);
        due("from its own COURSE on", x.plan(1, 2), 6);
        due("each costs CHILL", x.draw(0, 0), 5 * 3 - 4);
        x.turn(0, 5, 1);
        due("not the last one", x.plan(0, 2), 3);
        x.turn(0, 3, -1);
        // -1, -1, 0: a COLUMN that is none of THE WALL is not COLD
        due("out of THE WALL", x.plan(0, 2), 2);
        x.turn(1, 1, 1);
        due("out of THE WALL to the right", x.plan(1, 2), 1);
        x.turn(1, 5, -1);
        due("back in the last COURSE", x.plan(1, 2), 2);
    }

    private static void windOfTheLastColumn() {
        FlueStack x = told("size 4 3;hearth 0 0 0;hearth 0 3 0;");
        for (int c = 0; c <= 3; c++) {
            x.wind(2, c, c + 1);
        }
        due("column 0", x.draw(0, 2), 10 + 1);
        due("column W - 1", x.draw(1, 2), 10 + 4);
        x.tune(1, 0);
        x.turn(0, 1, -1);
        x.turn(1, 2, 1);
        due("column -1", x.draw(0, 2), 10);
        due("column W", x.draw(1, 2), 10);
        x.turn(0, 2, 1);
        due("column 0 again, by way of -1", x.draw(0, 2), 10 + 1);
    }

    // ---- SMOKES and MEND

    private static void smokesBelowItsNeed() {
        for (int need = 0; need <= 99; need++) {
            FlueStack x = told("hearth 0 0 " + need + ";");
            due("by itself, NEED " + need, x.smokes(0, 0, 0), 45 < need ? 1 : 0);
        }
        FlueStack x = told("hearth 0 0 0;");
        x.tune(3, 1);
        x.wind(3, 0, -9);
        due("a DRAW of 0 is not less than 0", x.smokes(0, 0, 3), 0);
        x = told("hearth 8 0 0;");
        x.tune(3, 1);
        x.wind(3, 0, -1);
        due("a DRAW of 0", x.smokes(0, 0, 3), 0);
        x.wind(3, 0, -2);
        due("a DRAW below 0", x.smokes(0, 0, 3), 1);
        due("in another quarter", x.smokes(0, 0, 2), 0);
    }

    private static void smokesBelowAnother() {
        // DRAWS of 45 and 10
        FlueStack x = told("hearth 0 0 45;hearth 7 9 10;");
        for (int limit = 0; limit <= 99; limit++) {
            x.tune(5, limit);
            due("LIMIT " + limit, x.smokes(1, 0, 0), 10 < 45 - limit ? 1 : 0);
            due("the greater one", x.smokes(0, 1, 0), 0);
        }
        x.tune(5, 0);
        due("itself is no other one", x.smokes(1, 1, 0), 0);
        // when it NEEDS more, by that still, however little the other one draws
        x = told("hearth 0 0 46;hearth 7 9 11;");
        due("by itself", x.smokes(0, 0, 1), 1);
        due("by itself, when the lesser one is lit", x.smokes(0, 1, 1), 1);
        x.tune(5, 99);
        due("by itself, when LIMIT is wide", x.smokes(1, 0, 1), 1);
        // as much as one another
        x = told("hearth 0 0 0;hearth 0 9 0;");
        x.tune(5, 0);
        due("as much as one another", x.smokes(0, 1, 0), 0);
        x.wind(2, 9, 1);
        due("one less in quarter 2", x.smokes(0, 1, 2), 1);
        due("not in quarter 1", x.smokes(0, 1, 1), 0);
        due("no quarter 4", x.smokes(0, 1, 4), BAD);
        due("no hearth 2", x.smokes(0, 2, 0), BAD);
        due("no hearth 2", x.smokes(2, 0, 0), BAD);
    }

    private static void mended() {
        for (int lift = 1; lift <= 20; lift++) {
            for (int need = 0; need <= 99; need++) {
                FlueStack x = told("size 2 2;hearth 0 0 " + need + ";");
                x.tune(3, lift);
                int pot = 0;
                while (lift + pot * lift < need) {
                    pot++;
                }
                due("LIFT " + lift + ", NEED " + need, x.mend(0), pot <= 40 ? pot : NONE);
            }
        }
        FlueStack x = told("size 2 2;hearth 0 0 41;");
        x.tune(3, 1);
        due("40 COURSES more", x.mend(0), 40);
        x = told("size 2 2;hearth 0 0 42;");
        x.tune(3, 1);
        due("41 are too many", x.mend(0), NONE);
        due("no hearth 1", x.mend(1), BAD);
    }

    private static void mendedInAnyQuarter() {
        // DRAWS of 45 and 10, LIMIT 10
        FlueStack x = told("hearth 0 0 45;hearth 7 9 10;");
        due("by the other one", x.mend(1), 5);
        due("the greater one", x.mend(0), 0);
        x.wind(3, 0, 1);
        due("by the other one's wind in the last quarter", x.mend(1), 6);
        x.wind(3, 9, 9);
        due("its own wind helps in that quarter alone", x.mend(1), 5);
        x.wind(0, 9, -9);
        due("its own wind is against it in another one", x.mend(1), 7);
        x.tune(5, 99);
        due("by its NEED", x.mend(1), 2);
        for (int q = 0; q <= 3; q++) {
            FlueStack y = told("hearth 0 0 45;");
            y.wind(q, 0, -1);
            due("quarter " + q + " alone", y.mend(0), 1);
        }
        // against another one: 40 more at most, too
        x = told("size 2 16;hearth 0 0 0;hearth 14 1 0;");
        x.tune(5, 0);
        x.tune(3, 20);
        due("14 COURSES more", x.mend(1), 14);
        x.tune(3, 1);
        x.wind(1, 0, 9);
        x.wind(1, 1, -9);
        due("32 COURSES more", x.mend(1), 32);
        x = told("size 2 16;cold 1 1;hearth 0 0 0;hearth 14 1 0;");
        x.tune(5, 0);
        x.tune(3, 1);
        x.tune(2, 13);
        due("40 COURSES more against another one", x.mend(1), 40);
        x.tune(2, 14);
        due("42 are too many", x.mend(1), NONE);
    }

    // ---- DOORS

    private static void doors() {
        for (int bends = 0; bends <= 14; bends++) {
            FlueStack x = told("size 9 16;hearth 0 4 0;");
            // a zigzag, and straight up on from the last bend in the way that is due
            for (int r = 1; r <= bends + 1; r++) {
                x.turn(0, r, r % 2);
            }
            for (int r = bends + 2; r <= 15; r++) {
                x.turn(0, r, (bends + 1) % 2);
            }
            due("BENDS", x.plan(0, 0), bends);
            for (int brush = 0; brush <= 9; brush++) {
                x.tune(4, brush);
                due("DOORS of " + bends + " BENDS, BRUSH " + brush, x.plan(0, 3), swept(bends + 1, brush));
            }
        }
        FlueStack x = told("size 9 2;hearth 0 4 0;");
        x.tune(4, 0);
        due("one step needs none", x.plan(0, 3), 0);
        x = told("size 9 4;hearth 0 4 0;");
        x.tune(4, 0);
        x.turn(0, 1, 1);
        due("one bend: from either end", x.plan(0, 3), 0);
        x.turn(0, 3, 1);
        due("two bends: a door between them", x.plan(0, 3), 1);
        x.tune(4, 1);
        due("with BRUSH 1 none", x.plan(0, 3), 0);
    }

    /** Doors for straight lengths, one bend between two of them: the lowest that is not swept gets the highest door. */
    private static int swept(int lengths, int brush) {
        boolean[] clean = new boolean[lengths];
        for (int i = 0; i < lengths; i++) {
            clean[i] = i <= brush || lengths - 1 - i <= brush;
        }
        int doors = 0;
        for (int i = 0; i < lengths; i++) {
            if (!clean[i]) {
                doors++;
                for (int k = i; k < lengths && k <= i + 2 * brush; k++) {
                    clean[k] = true;
                }
            }
        }
        return doors;
    }

    // ---- MOVED

    private static void moved(String call, FlueStack x, int columns, int number, int set) {
        due(call + ", how many", x.moved(columns, 0), number);
        due(call + ", the set", x.moved(columns, 1), set);
    }

    private static void moved() {
        FlueStack x = told("size 9 4;hearth 0 1 0;hearth 0 4 0;hearth 0 7 0;");
        x.turn(0, 2, -1);
        x.turn(1, 2, 1);
        x.turn(2, 2, 1);
        moved("none", x, 0, 0, 0);
        moved("columns that none has", x, 1 << 2 | 1 << 3 | 1 << 6, 0, 0);
        moved("one", x, 1 << 0, 1, 1);
        moved("another one", x, 1 << 5, 1, 2);
        moved("the last one", x, 1 << 8, 1, 4);
        moved("two", x, 1 << 0 | 1 << 8, 2, 5);
        moved("all", x, 1 << 0 | 1 << 5 | 1 << 8, 3, 7);
        moved("where one begins", x, 1 << 1, NONE, NONE);
        moved("all columns", x, 1023, NONE, NONE);
        // others keep theirs: the one that must is not in their way
        x = told("size 6 3;hearth 0 2 0;hearth 0 5 0;");
        x.turn(0, 2, 1);
        moved("one, and the other one stays", x, 1 << 3, 1, 1);
    }

    private static void movedLeastSet() {
        // one leans to column 8 and has to stay on its left; then either the one that begins in course 4 has to stand
        // straight, or the one in column 2 to make room: for it can get by on the left of the other
        String[] all = {"hearth 0 7 0;", "hearth 0 2 0;", "hearth 4 5 0;"};
        int[][] orders = {{0, 1, 2}, {0, 2, 1}, {1, 0, 2}, {1, 2, 0}, {2, 0, 1}, {2, 1, 0}};
        int[] due = {3, 3, 3, 5, 3, 5};
        for (int i = 0; i < 6; i++) {
            StringBuilder text = new StringBuilder("size 10 7;");
            int leans = 0, begins = 0, low = 0;
            for (int h = 0; h < 3; h++) {
                text.append(all[orders[i][h]]);
                leans = orders[i][h] == 0 ? h : leans;
                low = orders[i][h] == 1 ? h : low;
                begins = orders[i][h] == 2 ? h : begins;
            }
            FlueStack x = told(text.toString());
            x.turn(leans, 1, 1);
            x.turn(begins, 5, 1);
            moved("well as it is", x, 0, 0, 0);
            moved("order " + i + ", of two sets the least", x, 1 << 8, 2, due[i]);
            x.turn(begins, 5, 0);
            moved("order " + i + ", that one alone", x, 1 << 8, 1, 1 << leans);
            x.turn(begins, 5, 1);
            x.turn(low, 4, -1);
            moved("order " + i + ", that one alone again", x, 1 << 8, 1, 1 << leans);
        }
    }

    private static void movedOfNone() {
        FlueStack x = new FlueStack();
        moved("no hearths", x, 0, 0, 0);
        moved("no hearths, all columns", x, 1023, 0, 0);
        x = told("size 4 4;beam 2 1 1;hearth 0 1 0;");
        due("ill judged", x.moved(0, 0), STATE);
        due("ill judged", x.moved(0, 1), STATE);
        due("BAD ahead of STATE", x.moved(1024, 0), BAD);
        due("BAD ahead of STATE", x.moved(0, 2), BAD);
        x.take(1);
        due("well judged then", x.moved(0, 0), 0);
        due("its way is by column 0", x.moved(1, 1), 1);
    }

    private static void movedColumns() {
        for (int c = 0; c <= 9; c++) {
            FlueStack x = told("size 10 3;hearth 0 " + c + " 0;");
            moved("its own column " + c, x, 1 << c, NONE, NONE);
            moved("all others", x, 1023 & ~(1 << c), 0, 0);
            x.turn(0, 2, c == 0 ? 1 : -1);
            moved("the column to which it leans", x, c == 0 ? 2 : 1 << (c - 1), 1, 1);
        }
        FlueStack x = told("size 2 3;hearth 0 0 0;");
        moved("columns beyond the wall", x, 1020, 0, 0);
        moved("those and the other one", x, 1022, 0, 0);
        moved("all", x, 1023, NONE, NONE);
        due("beyond ten columns", x.moved(1024, 0), BAD);
        due("below none", x.moved(-1, 0), BAD);
        due("all bits", x.moved(Integer.MAX_VALUE, 0), BAD);
        due("the highest bit", x.moved(Integer.MIN_VALUE, 0), BAD);
    }

    // ---- MARKS and GUESS

    private static void marks() {
        FlueStack x = told("size 10 16;hearth 0 5 0;");
        int[][] places = {{0, 0}, {15, 9}, {0, 9}, {15, 0}, {0, 0}, {7, 7}};
        for (int i = 0; i < 6; i++) {
            due("mark " + (i + 1), x.mark(places[i][0], places[i][1]), i + 1);
            due("MARKS", x.count(3), i + 1);
        }
        for (int[] place : places) {
            due("a seventh", x.mark(place[0], place[1]), -3);
        }
        due("still six", x.count(3), 6);
        due("no such brick is BAD first", x.mark(16, 0), BAD);
        due("no such brick is BAD first", x.mark(0, 10), BAD);
        due("a mark on a beam", told("size 4 4;beam 1 1 1;").mark(1, 1), 1);
        due("a mark without hearths", new FlueStack().mark(9, 9), 1);
    }

    private static void guessFromItsOwnCourse() {
        for (int own = 0; own <= 2; own++) {
            for (int r = 0; r <= 3; r++) {
                FlueStack x = told("size 3 4;hearth " + own + " 1 0;");
                long all = x.many(0);
                due("no MARKS", x.guess(0), all);
                x.mark(r, 1);
                long straight = x.guess(0);
                if (r < own) {
                    due("a mark below its own", straight, all);
                } else if (r == own) {
                    due("a mark on its own", straight, all);
                }
                x = told("size 3 4;hearth " + own + " 1 0;");
                x.mark(r, 2);
                if (r < own) {
                    due("a mark beside, below its own", x.guess(0), all);
                } else if (r == own) {
                    due("a mark beside its own", x.guess(0), 0);
                } else {
                    due("by column 1 and by both sides alike", straight + 2 * x.guess(0), all);
                }
                due("MANY is without MARKS", x.many(0), all);
            }
        }
        FlueStack x = told("size 3 3;hearth 0 1 0;");
        x.mark(2, 0);
        due("in the last course", x.guess(0), 2);
        due("of none", x.guess(1), BAD);
        due("of none", x.guess(-1), BAD);
        x = told("size 10 16;hearth 0 4 0;hearth 14 4 0;");
        due("the most", x.guess(0), 11809035);
        x.mark(14, 9);
        x.mark(13, 0);
        due("two that are too far apart", x.guess(0), 0);
        due("only its own course counts", x.guess(1), 0);
    }

    private static void guessOfTwoInOneCourse() {
        FlueStack x = told("size 3 3;hearth 0 1 0;hearth 1 1 0;");
        x.mark(1, 1);
        due("one", x.guess(0), 3);
        x.mark(1, 1);
        due("the same one twice", x.guess(0), 3);
        due("the same one twice, its own", x.guess(1), 3);
        x.mark(1, 2);
        due("two in one course: no way goes by both", x.guess(0), 0);
        due("two in its own course", x.guess(1), 0);
        x = told("size 3 3;hearth 0 1 0;hearth 1 1 0;");
        x.mark(0, 0);
        x.mark(0, 1);
        due("two in its own course", x.guess(0), 0);
        due("both below its own", x.guess(1), 3);
    }

    // ---- KINDS

    private static void kinds() {
        // of 15 COURSES: 3 LEANS, 6 BENDS
        FlueStack x = told("size 9 16;hearth 0 4 99;hearth 14 0 0;hearth 3 8 15;");
        x.turn(0, 3, 1);
        x.turn(0, 5, 1);
        x.turn(0, 9, -1);
        int[][] due = {{15, 12, 21, 42, 15, -84}, {1, 1, 1, 2, 4, 1}, {12, 12, 12, 24, 15, -3}};
        long[] trace = {1, 11, 101, 1101, 10011, 100001};
        long sum = 0;
        for (int h = 0; h < 3; h++) {
            for (int kind = 0; kind <= 5; kind++) {
                due("hearth " + h + " as kind " + kind, x.rate(kind, h), due[h][kind]);
                sum += trace[kind];
                due("THE TRACE", x.trace(), sum);
            }
        }
        due("no kind 6", x.rate(6, 0), NO);
        due("no kind -1", x.rate(-1, 0), NO);
        due("no hearth 3", x.rate(0, 3), NO);
        due("THE TRACE is as it was", x.trace(), sum);
        due("THE TRACE of another one", new FlueStack().trace(), 0);
        // nothing above a hearth but one course, all of it leaning
        x = told("size 2 2;hearth 0 0 99;");
        x.turn(0, 1, 1);
        due("the least STRAIGHT", x.rate(1, 0), 0);
        due("the least SHARED", x.rate(4, 0), 1);
        due("the least OLD", x.rate(5, 0), -98);
    }

    // ---- IMAGES, and a WALL read anew

    private static void images() {
        FlueStack x = told("size 6 4;hearth 0 3 30;hearth 1 0 0;");
        x.keep(0);
        x.turn(0, 1, 1);
        x.turn(1, 2, -1);
        x.mark(2, 4);
        due("keep 1", x.keep(1), 1);
        x.mark(3, 5);
        x.tune(0, 3);
        x.wind(1, 1, 1);
        x.rate(0, 0);
        Due.write(x, "size 9 9;");
        due("back 0", x.back(0), 0);
        ways("image 0", x, 0, 3, 3, 3, 3);
        ways("image 0", x, 1, 0, 0, 0);
        due("image 0 has no MARKS", x.guess(0), x.many(0));
        due("back 1", x.back(1), 1);
        ways("image 1", x, 0, 3, 4, 4, 4);
        ways("image 1", x, 1, 0, -1, -1);
        due("image 1 has one MARK", x.guess(0), 6);
        due("TUNES are none of it", x.tune(0, 1), 3);
        due("WINDS are none of it", x.wind(1, 1, 0), 1);
        due("THE TRACE is none of it", x.trace(), 1);
        due("THE TEXT is none of it", x.count(4), 9);
        // kept again, the last one counts; and what is kept stays when it has come back
        due("image 0 becomes as image 1", x.keep(0), 1);
        x.turn(0, 3, -1);
        due("back 0", x.back(0), 1);
        ways("image 0 anew", x, 0, 3, 4, 4, 4);
        x.turn(0, 3, -1);
        due("back 0 again", x.back(0), 1);
        ways("image 0 again", x, 0, 3, 4, 4, 4);
        // MARKS come back with their places, when others have been made there
        for (int other = 0; other <= 1; other++) {
            x = told("size 6 4;hearth 0 3 30;");
            x.keep(1);
            x.mark(1, 2);
            x.keep(0);
            x.back(1);
            x.mark(other == 0 ? 1 : 2, other == 0 ? 4 : 2);
            due("by another MARK", x.guess(0), other == 0 ? 8 : 6);
            x.back(0);
            due("by the first MARK", x.guess(0), 9);
        }
        due("no image 2", x.keep(2), BAD);
        due("no image 2", x.back(2), BAD);
        due("no image -1", x.keep(-1), BAD);
        due("no image -1", x.back(-1), BAD);
    }

    private static void readAnew() {
        // each wall is read on top of one of which nothing is as at first
        for (String text : new String[] {"", "size 2 2;hearth 0 0 0;", "size 10 16;hearth 0 9 9;hearth 14 0 1;hearth 3 3 3;",
            "beam 5 5 5;cold 0 9;"}) {
            FlueStack x = told("size 9 7;beam 4 0 8;cold 1 7;hearth 0 0 9;hearth 1 4 9;hearth 5 8 9;");
            for (int h = 0; h < 3; h++) {
                x.turn(h, 6, 1);
            }
            for (int i = 0; i < 6; i++) {
                x.mark(i, i);
                x.tune(i, i == 0 ? 3 : 7);
            }
            for (int c = 0; c < 9; c++) {
                x.wind(c % 4, c, 9);
            }
            x.keep(0);
            x.keep(1);
            x.rate(3, 1);
            Due.tell(x, text);
            FlueStack y = told(text);
            for (int i = 0; i < 6; i++) {
                y.tune(i, i == 0 ? 3 : 7);
            }
            due("THE TRACE stays", x.trace(), 1101);
            String was = Whole.of(x).replaceAll("trace=\\d+ ", ""), is = Whole.of(y).replaceAll("trace=\\d+ ", "");
            Due.due("read anew: " + text, was, is);
        }
    }

    // ---- 512 calls

    private static void lastOfItsCalls() {
        FlueStack x = new FlueStack();
        for (int call = 1; call <= 511; call++) {
            due("call " + call, x.type(';', 1), call <= 300 ? call : -3);
        }
        due("call 512", x.clear(), 300);
        // four calls told the wall
        x = told("size 10 16;hearth 0 0 0;");
        for (int call = 5; call <= 511; call++) {
            due("call " + call, x.rate(5, 0), 15);
        }
        due("call 512", x.trace(), 507L * 100001);
        x = told("size 10 16;hearth 0 0 0;");
        int[] steps = new int[16];
        for (int call = 5; call <= 511; call++) {
            int r = 1 + call % 15, d = call / 15 % 3 - 1;
            due("call " + call, x.turn(0, r, d), steps[r]);
            steps[r] = d;
        }
        due("call 512", x.way(0, 15), Arrays.stream(steps).sum());
    }
}
