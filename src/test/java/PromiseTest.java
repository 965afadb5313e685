/** Each promise by hand: ordinary inputs, the edges that the document names, wrong inputs. */
public final class PromiseTest {
    private static final int BAD = FlueStack.BAD, STATE = FlueStack.STATE, FULL = FlueStack.FULL;
    private static final int NONE = FlueStack.NONE, NO = FlueStack.NO;
    private static final int MAX = Integer.MAX_VALUE, MIN = Integer.MIN_VALUE;

    private PromiseTest() {
    }

    public static void main(String[] args) {
        promise1New();
        promise2Type();
        promise3Clear();
        promise4Wall();
        promise4WallReadAnew();
        promise4Faults();
        promise4Words();
        promise5Brick();
        promise6Hearth();
        promise7Tune();
        promise8Wind();
        promise9Many();
        promise10One();
        promise11Together();
        promise12Share();
        promise13More();
        promise14Take();
        promise15Way();
        promise16Turn();
        promise17Judge();
        promise18Plan();
        promise19Draw();
        promise20Smokes();
        promise21Mend();
        promise22Moved();
        promise23Mark();
        promise24Guess();
        promise25Rate();
        promise26Keep();
        promise27Back();
        promise28Count();
        promise29Trace();
        Due.finish("PromiseTest");
    }

    private static void due(String call, long got, long want) {
        Due.due(call, got, want);
    }

    private static void promise1New() {
        due("BAD", FlueStack.BAD, -1);
        due("STATE", FlueStack.STATE, -2);
        due("FULL", FlueStack.FULL, -3);
        due("NONE", FlueStack.NONE, -9);
        due("NO", FlueStack.NO, -1000000);
        FlueStack x = new FlueStack();
        due("new W", x.count(0), 10);
        due("new H", x.count(1), 10);
        for (int what = 2; what <= 5; what++) {
            due("new count(" + what + ")", x.count(what), 0);
        }
        due("new trace", x.trace(), 0);
        due("new brick", x.brick(9, 9), 0);
        due("new wind", x.wind(3, 9, 0), 0);
        int[] tunes = {1, 3, 1, 5, 1, 10};
        for (int i = 0; i < tunes.length; i++) {
            due("new tune " + i, x.tune(i, tunes[i]), tunes[i]);
        }
        due("new judge", x.judge(0), NONE);
        due("new share", x.share(0), 0);
        due("new moved", x.moved(1023, 0), 0);
        due("new moved set", x.moved(1023, 1), 0);
        due("new more", x.more(0, 8, 0), 10);
        due("new back", x.back(0), STATE);
        due("new many", x.many(0), BAD);
        due("new together", x.together(1, 0), BAD);
    }

    private static void promise2Type() {
        FlueStack x = new FlueStack();
        due("type 1", x.type(';', 1), 1);
        due("type 8", x.type(Due.bytes("size 5 5"), 8), 9);
        due("n 0", x.type(1, 0), BAD);
        due("n 9", x.type(1, 9), BAD);
        due("n max", x.type(1, MAX), BAD);
        due("n min", x.type(1, MIN), BAD);
        due("bad leaves", x.count(4), 9);
        x.clear();
        // the highest of the lowest n bytes comes first; what is above them is left
        x.type(0x7f_00_00_00_00_00_00_00L | Due.bytes("cold 1"), 6);
        x.type(Due.bytes("x 9;"), 3);
        due("order of bytes", x.wall(), 0);
        due("order of bytes, cold", x.brick(0, 9), 2);
        for (int i = 0; i < 37; i++) {
            x.type(Due.bytes("        "), 8);
        }
        due("296", x.count(4), 296);
        due("too many", x.type(0, 5), FULL);
        due("full leaves", x.count(4), 296);
        due("bad ahead of full", x.type(0, 9), BAD);
        due("to the brim", x.type(Due.bytes("    "), 4), 300);
        due("one more", x.type(' ', 1), FULL);
        due("300 blanks are no fault", x.wall(), 0);
    }

    private static void promise3Clear() {
        FlueStack x = new FlueStack();
        due("clear nothing", x.clear(), 0);
        Due.write(x, "hearth 0 0");
        due("clear", x.clear(), 10);
        due("cleared", x.count(4), 0);
        due("clear again", x.clear(), 0);
        Due.write(x, "size 2 2;");
        due("only what came later is read", x.wall(), 0);
        due("only what came later is read, W", x.count(0), 2);
    }

    private static void promise4Wall() {
        FlueStack x = Due.told("  size6 8 ;beam 2 1 3;cold 5 5;hearth 0 2 7;hearth 6 5 99;hearth 1 0 0;  ");
        due("hearths", x.count(2), 3);
        due("W", x.count(0), 6);
        due("H", x.count(1), 8);
        due("text is empty then", x.count(4), 0);
        due("bars", x.count(5), 3);
        // straight up at first
        due("plan", x.way(0, 7), 2);
        due("plan 2", x.way(2, 1), 0);
        due("no item", Due.told("").count(0), 10);
        due("no size", Due.told("hearth 8 9 0;").count(2), 1);
        due("least size", Due.told("size 2 2;hearth 0 1 1;").count(0), 2);
        due("most size", Due.told("size 10 16;beam 15 9 9;hearth 14 9 99;").count(1), 16);
        due("no blank needed", Due.told("size2 2;hearth0 0 0;beam1 0 1;cold0 0;").count(5), 2);
        due("0 alone is a number", Due.told("beam 0 0 0;").brick(0, 0), 1);
    }

    private static void promise4WallReadAnew() {
        FlueStack x = Due.told("size 5 5;cold 0 4;beam 1 1 1;hearth 0 0 3;hearth 0 2 3;");
        x.wind(1, 1, 7);
        x.tune(3, 9);
        x.mark(1, 1);
        x.keep(0);
        x.keep(1);
        x.turn(0, 1, 1);
        x.rate(4, 0);
        Due.write(x, "hearth 0 2 3;hearth 10 0 0;");
        due("a fault", x.wall(), -10 - 20);
        due("a fault leaves the text", x.count(4), 27);
        due("a fault leaves hearths", x.count(2), 2);
        due("a fault leaves W", x.count(0), 5);
        due("a fault leaves the plan", x.way(0, 1), 1);
        due("a fault leaves marks", x.count(3), 1);
        due("a fault leaves winds", x.wind(1, 1, 7), 7);
        due("a fault leaves images", x.back(1), 1);
        due("a fault leaves beams", x.brick(1, 1), 3);
        due("the same fault again", x.wall(), -30);
        x.clear();
        x.turn(0, 2, -1);
        Due.tell(x, "hearth 0 2 3;");
        due("anew: W as at first", x.count(0), 10);
        due("anew: H as at first", x.count(1), 10);
        due("anew: hearths", x.count(2), 1);
        due("anew: no beams, not cold", x.brick(1, 1), 0);
        due("anew: no beams", x.count(5), 0);
        due("anew: no marks", x.count(3), 0);
        due("anew: no winds", x.wind(1, 1, 0), 0);
        due("anew: image 0 is gone", x.back(0), STATE);
        due("anew: image 1 is gone", x.back(1), STATE);
        due("anew: straight up", x.way(0, 2), 2);
        due("anew: straight up to the last", x.way(0, 9), 2);
        due("anew: tunes stay", x.tune(3, 5), 9);
        due("anew: the trace stays", x.trace(), 10011);
    }

    private static void fault(String text, int place) {
        FlueStack x = new FlueStack();
        Due.write(x, text);
        due("fault of <" + text + ">", x.wall(), -10 - place);
        due("text of <" + text + "> stays", x.count(4), text.length());
    }

    private static void promise4Faults() {
        fault("s", 0);
        fault("size", 4);
        fault("size ", 5);
        fault("size 5 5", 8);
        fault("size 5 5  ", 10);
        fault("size 1 5;", 5);
        fault("size 11 5;", 5);
        fault("size 5 1;", 7);
        fault("size 5 17;", 7);
        fault("size 5;", 6);
        fault("size 5 5 5;", 9);
        fault("size 5 5;size 5 5;", 9);
        fault("cold 0 0;size 5 5;", 9);
        fault("sizes 5 5;", 0);
        fault("siz 5 5;", 0);
        fault("Size 5 5;", 0);
        fault("siZe 5 5;", 0);
        fault("sizebeam 1 1 1;", 0);
        fault("size 5 5 beam 0 0 0;", 9);
        fault(";", 0);
        fault("size 5 5;;", 9);
        fault("5", 0);
        fault(" 5 size;", 1);
        fault("beam 10 0 0;", 5);
        fault("size 5 4;beam 4 0 0;", 14);
        fault("beam 9 10 10;", 7);
        fault("beam 9 9 10;", 9);
        fault("beam 0 3 2;", 9);
        fault("cold 3 2;", 7);
        fault("cold 10 10;", 5);
        fault("cold 0 10;", 7);
        fault("cold 0;", 6);
        fault("hearth 9 0 0;", 7);
        fault("hearth 8 10 0;", 9);
        fault("hearth 8 9 100;", 11);
        fault("hearth 8 9 99 ", 14);
        fault("size 2 2;hearth 1 0 0;", 16);
        fault("hearth 0 0 0;hearth 0 0 0;hearth 0 0 0;hearth", 39);
        fault("beam 00 0 0;", 5);
        fault("beam 0 01 1;", 7);
        fault("beam 4294967296 0 0;", 5);
        fault("hearth 0 0 18446744073709551617;", 11);
        fault("beam 0\t0 0;", 6);
        fault("beam -1 0 0;", 5);
        fault("beam 0,0 0;", 6);
        fault("\u0000", 0);
        fault("  \u00e9", 2);
        fault("cold 1 2;\n", 9);
    }

    private static void promise4Words() {
        // a word that differs from one of the four in a single letter, or by one more or less
        for (String word : new String[] {"size", "beam", "cold", "hearth"}) {
            for (int i = 0; i < word.length(); i++) {
                fault(" " + word.substring(0, i) + "z" + word.substring(word.charAt(i) == 'z' ? i : i + 1) + " 2 2 2;", 1);
                fault(" " + word.substring(0, i) + word.substring(i + 1) + " 2 2 2;", 1);
            }
            fault("  " + word + "s 2 2 2;", 2);
        }
    }

    private static void promise5Brick() {
        FlueStack x = Due.told("size 4 3;beam 1 1 2;beam 1 2 3;cold 0 1;cold 3 3;");
        int[][] due = {{2, 2, 0, 2}, {2, 3, 1, 3}, {2, 2, 0, 2}};
        for (int r = 0; r < 3; r++) {
            for (int c = 0; c < 4; c++) {
                due("brick(" + r + "," + c + ")", x.brick(r, c), due[r][c]);
            }
        }
        for (int off : new int[] {-1, 4, MAX, MIN}) {
            due("brick(0," + off + ")", x.brick(0, off), BAD);
            due("brick(" + off + ",0)", x.brick(off, 0), BAD);
        }
        due("brick(3,0)", x.brick(3, 0), BAD);
    }

    private static void promise6Hearth() {
        FlueStack x = Due.told("size 4 6;hearth 2 3 44;hearth 0 1 0;");
        due("COURSE", x.hearth(0, 0), 2);
        due("COLUMN", x.hearth(0, 1), 3);
        due("NEED", x.hearth(0, 2), 44);
        due("COLUMN of 1", x.hearth(1, 1), 1);
        due("what -1", x.hearth(0, -1), BAD);
        due("what 3", x.hearth(0, 3), BAD);
        due("h 2", x.hearth(2, 0), BAD);
        due("h -1", x.hearth(-1, 0), BAD);
        due("h max", x.hearth(MAX, 0), BAD);
    }

    private static void promise7Tune() {
        FlueStack x = new FlueStack();
        int[] first = {1, 3, 1, 5, 1, 10}, least = {0, 0, 0, 1, 0, 0}, most = {3, 20, 20, 20, 9, 99};
        for (int i = 0; i < 6; i++) {
            due("tune less", x.tune(i, least[i] - 1), BAD);
            due("tune more", x.tune(i, most[i] + 1), BAD);
            due("tune most", x.tune(i, most[i]), first[i]);
            due("tune least", x.tune(i, least[i]), most[i]);
            due("tune again", x.tune(i, first[i]), least[i]);
        }
        due("tune -1", x.tune(-1, 1), BAD);
        due("tune 6", x.tune(6, 1), BAD);
        due("tune max", x.tune(MAX, 1), BAD);
        due("tune to min", x.tune(0, MIN), BAD);
    }

    private static void promise8Wind() {
        FlueStack x = Due.told("size 4 4;hearth 0 3 0;");
        due("wind", x.wind(0, 3, -9), 0);
        due("wind was", x.wind(0, 3, 9), -9);
        due("another quarter", x.wind(3, 3, 1), 0);
        due("another column", x.wind(0, 2, 1), 0);
        due("more", x.wind(0, 3, 10), NO);
        due("less", x.wind(0, 3, -10), NO);
        due("quarter 4", x.wind(4, 0, 0), NO);
        due("quarter -1", x.wind(-1, 0, 0), NO);
        due("column 4", x.wind(0, 4, 0), NO);
        due("column -1", x.wind(0, -1, 0), NO);
        due("refused leaves", x.wind(0, 3, 0), 9);
    }

    private static void promise9Many() {
        FlueStack x = Due.told("size 3 3;hearth 0 1 0;hearth 1 0 0;hearth 0 0 0;");
        due("middle", x.many(0), 7);
        due("one step at the side", x.many(1), 2);
        due("side", x.many(2), 5);
        due("h 3", x.many(3), BAD);
        due("h -1", x.many(-1), BAD);
        x = Due.told("size 3 3;beam 1 0 1;hearth 0 1 0;hearth 0 0 0;hearth 1 1 0;");
        due("by the beam", x.many(0), 2);
        due("no way", x.many(1), 0);
        due("its own brick is barred", x.many(2), 0);
        due("the most", Due.told("size 10 16;hearth 0 5 0;").many(0), 11809035);
        // others are not in the way
        due("alone", Due.told("size 3 2;hearth 0 1 0;hearth 0 1 0;").many(1), 3);
    }

    private static void promise10One() {
        FlueStack x = Due.told("size 3 4;hearth 0 0 0;hearth 1 2 0;beam 3 0 1;");
        // up to column 2 in three steps: straight, lean, lean and lean, lean, straight bend once
        due("BENDS", x.one(0, -1), 1);
        due("LEANS", x.one(0, -2), 2);
        int[] columns = {0, 0, 1, 2};
        for (int r = 0; r < 4; r++) {
            due("the first by columns, " + r, x.one(0, r), columns[r]);
        }
        due("straight", x.one(1, -2), 0);
        due("first course", x.one(1, 1), 2);
        due("below its own", x.one(1, 0), BAD);
        due("above the last", x.one(1, 4), BAD);
        due("r -3", x.one(1, -3), BAD);
        due("h 2", x.one(2, -1), BAD);
        // fewest bends go ahead of fewest leans, and the first step is no bend
        x = Due.told("size 4 4;beam 3 0 2;hearth 0 0 0;");
        due("all leans", x.one(0, -1), 0);
        due("all leans, 3", x.one(0, -2), 3);
        x = Due.told("size 3 3;beam 2 1 1;hearth 0 1 0;");
        // one lean, one bend or none? leaning twice is off the wall: the lean comes first or last
        due("a bend must be", x.one(0, -1), 1);
        due("of several the first", x.one(0, 1), 0);
        x = Due.told("size 3 3;beam 1 0 2;hearth 0 1 0;hearth 1 1 1;");
        due("NONE", x.one(0, -1), NONE);
        due("NONE, a column", x.one(0, 2), NONE);
        due("BAD ahead of NONE", x.one(0, 3), BAD);
        due("NONE from a barred brick", x.one(1, -2), NONE);
    }

    private static void promise11Together() {
        FlueStack x = Due.told("size 6 4;hearth 0 0 0;hearth 0 5 0;");
        due("BREADTH", x.together(3, 0), 3);
        due("LEANS", x.together(3, 1), 3);
        due("alone", x.together(1, 0), 1);
        due("alone, LEANS", x.together(2, 1), 0);
        due("set 0", x.together(0, 0), BAD);
        due("set 4", x.together(4, 0), BAD);
        due("set -1", x.together(-1, 0), BAD);
        due("set max", x.together(MAX, 0), BAD);
        due("what 2", x.together(3, 2), BAD);
        due("what -1", x.together(3, -1), BAD);
        x.tune(0, 3);
        due("a wide GAP", x.together(3, 0), 5);
        x.tune(0, 0);
        due("no GAP", x.together(3, 0), 2);
        x = Due.told("size 6 4;hearth 0 2 0;hearth 0 3 0;");
        due("too near", x.together(3, 0), NONE);
        due("too near, LEANS", x.together(3, 1), NONE);
        x.tune(0, 0);
        due("near enough", x.together(3, 1), 0);
        // with no GAP they could cross by changing places: barred so that only this would do
        x = Due.told("size 3 3;beam 1 2 2;beam 2 0 0;hearth 0 0 0;hearth 0 1 0;");
        x.tune(0, 0);
        due("side by side", x.together(3, 0), 2);
        x = Due.told("size 2 2;hearth 0 0 0;hearth 0 0 0;");
        x.tune(0, 0);
        due("the same brick", x.together(3, 0), NONE);
        // one that begins later may be on either side
        x = Due.told("size 5 5;hearth 0 2 0;hearth 3 0 0;hearth 3 4 0;");
        due("later ones", x.together(7, 0), 5);
        due("later ones, LEANS", x.together(7, 1), 0);
        // its course is barred by the other, whatever that does
        x = Due.told("size 2 4;hearth 0 0 0;hearth 2 1 0;");
        due("no room", x.together(3, 0), NONE);
        x.tune(0, 0);
        due("room", x.together(3, 0), 2);
    }

    private static void promise12Share() {
        FlueStack x = Due.told("size 6 4;hearth 0 2 0;hearth 0 3 0;hearth 0 4 0;");
        due("of several the least", x.share(0), 5);
        due("how many", x.share(1), 2);
        x.tune(0, 3);
        due("one alone", x.share(0), 1);
        due("one alone, how many", x.share(1), 1);
        x.tune(0, 0);
        due("all", x.share(0), 7);
        due("what 2", x.share(2), BAD);
        due("what -1", x.share(-1), BAD);
        x = Due.told("size 3 3;beam 1 0 2;hearth 0 0 0;hearth 1 1 0;");
        due("none has a way", x.share(0), 0);
        due("none has a way, how many", x.share(1), 0);
        // the largest, though a lesser set comes ahead
        x = Due.told("size 6 4;hearth 0 2 0;hearth 0 1 0;hearth 0 3 0;");
        due("the largest", x.share(0), 6);
    }

    private static void promise13More() {
        FlueStack x = Due.told("size 6 4;hearth 0 2 0;hearth 2 5 0;beam 0 5 5;");
        due("beside none", x.more(0, 0, 0), 5);
        due("beside none, first", x.more(0, 0, 1), 0);
        due("beside 0", x.more(1, 0, 0), 2);
        due("beside 0, first", x.more(1, 0, 1), 0);
        due("beside 1", x.more(2, 2, 0), 4);
        due("below 1", x.more(2, 0, 0), 5);
        due("beside both", x.more(3, 2, 0), 4);
        due("last course but one", x.more(0, 2, 0), 6);
        due("the last course", x.more(0, 3, 0), BAD);
        due("course -1", x.more(0, -1, 0), BAD);
        due("what 2", x.more(0, 0, 2), BAD);
        due("what -1", x.more(0, 0, -1), BAD);
        due("set 4", x.more(4, 0, 0), BAD);
        due("set 7", x.more(7, 0, 0), BAD);
        due("set -1", x.more(-1, 0, 0), BAD);
        x.tune(0, 3);
        due("nowhere", x.more(3, 0, 0), 0);
        due("nowhere, first", x.more(3, 0, 1), NONE);
        x = Due.told("size 9 3;hearth 0 0 0;hearth 0 4 0;hearth 0 8 0;");
        due("two of three", x.more(5, 0, 0), 5);
        due("two of three, first", x.more(5, 0, 1), 2);
        due("another two", x.more(6, 0, 1), 0);
        due("all three", x.more(7, 0, 0), BAD);
        x = Due.told("size 5 3;hearth 0 2 0;hearth 0 2 0;");
        due("a set that does not go together", x.more(3, 1, 0), 0);
    }

    private static void promise14Take() {
        FlueStack x = Due.told("size 6 4;hearth 0 0 0;hearth 0 5 0;hearth 1 2 0;");
        x.turn(2, 2, 1);
        due("take", x.take(3), 1);
        int[][] columns = {{0, 0, 0, 0}, {5, 4, 3, 2}};
        for (int h = 0; h < 2; h++) {
            for (int r = 0; r < 4; r++) {
                due("taken " + h + "," + r, x.way(h, r), columns[h][r]);
            }
        }
        due("others keep theirs", x.way(2, 3), 3);
        // by columns course by course: all of the first course come ahead of the second one's
        due("alone", x.take(2), 1);
        due("alone, straight", x.way(1, 3), 5);
        due("set 0", x.take(0), BAD);
        due("set 8", x.take(8), BAD);
        due("set -1", x.take(-1), BAD);
        x = Due.told("size 6 4;hearth 0 2 0;hearth 0 3 0;");
        x.turn(0, 1, 1);
        due("not together", x.take(3), STATE);
        due("nothing changed", x.way(0, 3), 3);
        due("one of them", x.take(2), 1);
        due("the other one keeps its way", x.way(0, 3), 3);
    }

    private static void promise15Way() {
        FlueStack x = Due.told("size 3 4;hearth 1 0 0;");
        due("own", x.way(0, 1), 0);
        due("last", x.way(0, 3), 0);
        due("below", x.way(0, 0), NO);
        due("above", x.way(0, 4), NO);
        due("far", x.way(0, MAX), NO);
        due("min", x.way(0, MIN), NO);
        due("h 1", x.way(1, 1), NO);
        due("h -1", x.way(-1, 1), NO);
        x.turn(0, 2, -1);
        due("off the wall", x.way(0, 2), -1);
    }

    private static void promise16Turn() {
        FlueStack x = Due.told("size 3 5;hearth 1 0 0;hearth 0 2 0;");
        due("turn", x.turn(0, 3, 1), 0);
        due("behind moves", x.way(0, 4), 1);
        due("ahead stays", x.way(0, 2), 0);
        due("turn below", x.turn(0, 2, -1), 0);
        due("steps behind are the same", x.way(0, 3), 0);
        due("moved", x.way(0, 2), -1);
        due("was", x.turn(0, 2, 1), -1);
        due("by two", x.way(0, 4), 2);
        due("was 1", x.turn(0, 3, 1), 1);
        due("others stay", x.way(1, 4), 2);
        due("its own course", x.turn(0, 1, 0), NO);
        due("below", x.turn(0, 0, 0), NO);
        due("above", x.turn(0, 5, 0), NO);
        due("d 2", x.turn(0, 4, 2), NO);
        due("d -2", x.turn(0, 4, -2), NO);
        due("h 2", x.turn(2, 4, 0), NO);
        due("r min", x.turn(0, MIN, 0), NO);
        due("r max", x.turn(0, MAX, 0), NO);
        due("refused leaves", x.way(0, 4), 2);
    }

    private static void judged(String call, FlueStack x, int trouble, int hearth, int course) {
        due(call + ", trouble", x.judge(0), trouble);
        due(call + ", hearth", x.judge(1), hearth);
        due(call + ", course", x.judge(2), course);
    }

    private static void promise17Judge() {
        FlueStack x = Due.told("size 6 5;hearth 0 2 0;hearth 0 4 0;beam 3 5 5;");
        judged("well", x, NONE, NONE, NONE);
        due("what 3", x.judge(3), BAD);
        due("what -1", x.judge(-1), BAD);
        x.turn(1, 3, 1);
        judged("a beam", x, 2, 1, 3);
        x.turn(1, 1, 1);
        x.turn(1, 2, 1);
        judged("off the wall", x, 1, 1, 2);
        x.turn(0, 2, 1);
        x.turn(1, 1, 0);
        x.turn(1, 2, 0);
        judged("too near", x, 3, 1, 2);
        x.tune(0, 0);
        judged("a beam with no GAP", x, 2, 1, 3);
        // lesser courses first, then lesser hearths
        x = Due.told("size 6 5;hearth 0 0 0;hearth 0 5 0;");
        x.turn(1, 2, 1);
        judged("the other one's", x, 1, 1, 2);
        x.turn(0, 2, -1);
        judged("the lesser hearth's", x, 1, 0, 2);
        x.turn(1, 1, 1);
        judged("the lesser course's", x, 1, 1, 1);
        // they change places with no GAP
        x = Due.told("size 6 5;hearth 0 2 0;hearth 1 3 0;");
        x.tune(0, 0);
        x.turn(0, 3, 1);
        x.turn(1, 3, -1);
        judged("crossed", x, 4, 1, 3);
        x.tune(0, 1);
        judged("crossed and too near: the least first", x, 3, 1, 1);
        // a beam goes ahead of both
        x = Due.told("size 6 5;beam 3 2 2;hearth 0 2 0;hearth 1 3 0;");
        x.tune(0, 0);
        x.turn(0, 3, 1);
        x.turn(1, 3, -1);
        judged("crossed into a beam", x, 2, 1, 3);
        // one that begins beside another one has not crossed it, wherever that one was before
        for (String hearths : new String[] {"hearth 0 2 0;hearth 2 3 0;", "hearth 2 3 0;hearth 0 2 0;"}) {
            x = Due.told("size 6 6;" + hearths);
            int climber = x.hearth(0, 0) == 0 ? 0 : 1;
            x.tune(0, 0);
            x.turn(climber, 1, 1);
            x.turn(climber, 2, 1);
            judged("no crossing", x, NONE, NONE, NONE);
            x.turn(climber, 4, -1);
            x.turn(1 - climber, 4, 1);
            judged("a crossing later", x, 4, 1, 4);
        }
        // a hearth that is not there yet is not near
        x = Due.told("size 6 5;hearth 3 2 0;hearth 0 3 0;");
        judged("near in the course where both are", x, 3, 1, 3);
    }

    private static void promise18Plan() {
        FlueStack x = Due.told("size 4 8;cold 0 1;hearth 0 2 0;hearth 6 0 0;");
        int[] steps = {-1, -1, 0, 1, 0, 1, 1};
        for (int i = 0; i < steps.length; i++) {
            x.turn(0, i + 1, steps[i]);
        }
        // columns 2 1 0 0 1 1 2 3
        due("BENDS", x.plan(0, 0), 4);
        due("LEANS", x.plan(0, 1), 5);
        due("COLD", x.plan(0, 2), 5);
        due("DOORS", x.plan(0, 3), 1);
        x.tune(4, 0);
        due("DOORS with BRUSH 0", x.plan(0, 3), 3);
        x.tune(4, 2);
        due("DOORS with BRUSH 2", x.plan(0, 3), 0);
        due("one step has no bend", x.plan(1, 0), 0);
        due("COLD from its own course on", x.plan(1, 2), 2);
        x.turn(1, 7, -1);
        due("off the wall is not COLD", x.plan(1, 2), 1);
        due("the first step is no bend", x.plan(1, 0), 0);
        due("the first step leans", x.plan(1, 1), 1);
        due("what 4", x.plan(0, 4), BAD);
        due("what -1", x.plan(0, -1), BAD);
        due("h 2", x.plan(2, 0), BAD);
        due("h -1", x.plan(-1, 0), BAD);
        // 14 bends part a flue in 15: with BRUSH 1 a door is for 3 of the 11 in the middle
        x = Due.told("size 4 16;hearth 0 1 0;");
        for (int r = 1; r < 16; r += 2) {
            x.turn(0, r, 1);
        }
        due("most BENDS", x.plan(0, 0), 14);
        int[] doors = {13, 4, 2, 1, 1, 1, 1, 0, 0, 0};
        for (int brush = 0; brush <= 9; brush++) {
            x.tune(4, brush);
            due("DOORS with BRUSH " + brush, x.plan(0, 3), doors[brush]);
        }
    }

    private static void promise19Draw() {
        FlueStack x = Due.told("size 4 6;cold 0 0;hearth 1 0 0;");
        due("LIFT and CHILL", x.draw(0, 0), 5 * 4 - 5);
        x.turn(0, 3, 1);
        due("BENDS", x.draw(0, 0), 5 * 4 - 2 * 3 - 2);
        x.wind(2, 1, 9);
        due("WIND", x.draw(0, 2), 12 + 9);
        due("another quarter", x.draw(0, 1), 12);
        x.tune(1, 0);
        x.tune(2, 20);
        x.tune(3, 1);
        due("TUNES", x.draw(0, 2), 4 - 40 + 9);
        x.turn(0, 3, -1);
        x.wind(2, 0, 9);
        due("off the wall: no WIND", x.draw(0, 2), 4 - 40);
        x.turn(0, 3, 0);
        x.turn(0, 5, 1);
        x.wind(1, 0, 5);
        x.wind(1, 1, -4);
        due("WIND of the last COLUMN alone", x.draw(0, 1), 4 - 80 - 4);
        due("quarter 4", x.draw(0, 4), NO);
        due("quarter -1", x.draw(0, -1), NO);
        due("h 1", x.draw(1, 0), NO);
        due("h -1", x.draw(-1, 0), NO);
    }

    private static void promise20Smokes() {
        FlueStack x = Due.told("size 6 6;hearth 0 0 25;hearth 3 3 0;hearth 0 5 26;");
        due("as much as it needs", x.smokes(0, 0, 0), 0);
        due("less than it needs", x.smokes(2, 2, 0), 1);
        due("by that still", x.smokes(2, 1, 0), 1);
        // 10 against 25
        due("less than the other one's less LIMIT", x.smokes(1, 0, 0), 1);
        due("alone it does not", x.smokes(1, 1, 0), 0);
        x.tune(5, 15);
        due("as much as the other one's less LIMIT", x.smokes(1, 0, 0), 0);
        x.wind(3, 0, 1);
        due("by the wind", x.smokes(1, 0, 3), 1);
        due("another quarter", x.smokes(1, 0, 2), 0);
        due("quarter 4", x.smokes(1, 0, 4), BAD);
        due("quarter -1", x.smokes(1, 0, -1), BAD);
        due("h 3", x.smokes(3, 0, 0), BAD);
        due("other 3", x.smokes(0, 3, 0), BAD);
        due("other -1", x.smokes(0, -1, 0), BAD);
    }

    private static void promise21Mend() {
        FlueStack x = Due.told("size 6 6;hearth 0 0 25;hearth 3 3 0;hearth 0 5 27;");
        due("none more", x.mend(0), 0);
        due("one more", x.mend(2), 1);
        due("by another one", x.mend(1), 1);
        x.tune(5, 0);
        due("by another one, LIMIT 0", x.mend(1), 3);
        x.wind(2, 5, 9);
        due("in any quarter", x.mend(1), 5);
        due("its own wind does not help in others", x.mend(2), 1);
        due("h 3", x.mend(3), BAD);
        due("h -1", x.mend(-1), BAD);
        // the others keep their pots, so a tall one can be asked: LIFT 1 times 40 at most
        x = Due.told("size 6 6;hearth 0 0 45;");
        x.tune(3, 1);
        due("40 more", x.mend(0), 40);
        x = Due.told("size 6 6;hearth 0 0 46;");
        x.tune(3, 1);
        due("NONE", x.mend(0), NONE);
    }

    private static void moved(String call, FlueStack x, int columns, int number, int set) {
        due(call + ", how many", x.moved(columns, 0), number);
        due(call + ", the set", x.moved(columns, 1), set);
    }

    private static void promise22Moved() {
        FlueStack x = Due.told("size 7 4;hearth 0 0 0;hearth 0 3 0;hearth 0 6 0;");
        moved("no columns", x, 0, 0, 0);
        moved("columns of none", x, 2, 0, 0);
        moved("columns beyond the wall", x, 896, 0, 0);
        moved("a hearth's own", x, 1, NONE, NONE);
        x.turn(1, 1, 1);
        moved("one must", x, 16, 1, 2);
        moved("its own still", x, 8, NONE, NONE);
        due("what 2", x.moved(0, 2), BAD);
        due("what -1", x.moved(0, -1), BAD);
        due("columns -1", x.moved(-1, 0), BAD);
        due("columns 1024", x.moved(1024, 0), BAD);
        x.turn(1, 2, 1);
        due("ill judged", x.moved(0, 0), STATE);
        due("BAD ahead of STATE", x.moved(1024, 0), BAD);
        x.turn(1, 2, 0);
        x.turn(2, 3, 1);
        due("off the wall", x.moved(0, 1), STATE);
        // with column 2 gone hearth 0 can't come to where the beam leaves room
        x = Due.told("size 4 4;beam 3 0 1;hearth 0 1 0;hearth 0 3 0;");
        x.tune(0, 0);
        x.turn(0, 3, 1);
        moved("well", x, 0, 0, 0);
        moved("no other way", x, 4, NONE, NONE);
        // the one that must, and the one that has to make room for it; nothing changes
        x = Due.told("size 4 3;hearth 0 1 0;hearth 0 2 0;");
        x.tune(0, 0);
        x.turn(0, 2, -1);
        x.turn(1, 2, -1);
        moved("before", x, 0, 0, 0);
        moved("both", x, 1, 2, 3);
        due("nothing is moved", x.way(0, 2), 0);
        // either of two could make room: the least set
        x = Due.told("size 5 3;hearth 0 2 0;hearth 1 0 0;hearth 1 4 0;");
        x.turn(0, 1, 1);
        x.tune(0, 0);
        moved("one alone", x, 8, 1, 1);
    }

    private static void promise23Mark() {
        FlueStack x = Due.told("size 4 3;hearth 0 0 0;");
        for (int i = 1; i <= 6; i++) {
            due("mark " + i, x.mark(2, 3), i);
        }
        due("a seventh", x.mark(0, 0), FULL);
        due("BAD ahead of FULL", x.mark(3, 0), BAD);
        due("column 4", x.mark(0, 4), BAD);
        due("column -1", x.mark(0, -1), BAD);
        due("course -1", x.mark(-1, 0), BAD);
        due("still six", x.count(3), 6);
    }

    private static void promise24Guess() {
        FlueStack x = Due.told("size 3 4;hearth 0 1 0;hearth 2 1 0;");
        due("no marks", x.guess(0), 17);
        x.mark(2, 1);
        due("by one", x.guess(0), 9);
        due("its own brick", x.guess(1), 3);
        x.mark(3, 2);
        due("by two", x.guess(0), 3);
        x.mark(0, 1);
        x.mark(1, 2);
        due("all fit", x.guess(0), 1);
        due("courses below its own do not matter", x.guess(1), 1);
        x.mark(1, 0);
        due("two in one course: by both", x.guess(0), 0);
        due("not its matter", x.guess(1), 1);
        due("h 2", x.guess(2), BAD);
        due("h -1", x.guess(-1), BAD);
        due("MANY is as it was", x.many(0), 17);
        x = Due.told("size 3 4;beam 2 1 1;hearth 0 1 0;hearth 2 2 0;");
        x.mark(2, 1);
        due("a mark on a beam", x.guess(0), 0);
        due("another brick than its own", x.guess(1), 0);
    }

    private static void promise25Rate() {
        FlueStack x = Due.told("size 4 7;hearth 1 2 9;hearth 0 0 0;hearth 0 0 0;");
        x.turn(0, 3, 1);
        x.turn(0, 4, 1);
        // five courses above, two leans, two bends
        int[] due = {5, 3, 7, 14, 6, -4};
        long[] trace = {1, 12, 113, 1214, 11225, 111226};
        for (int kind = 0; kind < 6; kind++) {
            due("rate as kind " + kind, x.rate(kind, 0), due[kind]);
            due("trace after kind " + kind, x.trace(), trace[kind]);
        }
        due("kind 6", x.rate(6, 0), NO);
        due("kind -1", x.rate(-1, 0), NO);
        due("h 3", x.rate(0, 3), NO);
        due("h -1", x.rate(0, -1), NO);
        due("refused leaves the trace", x.trace(), 111226);
    }

    private static void promise26Keep() {
        FlueStack x = Due.told("size 4 4;hearth 0 2 9;");
        due("keep", x.keep(0), 0);
        x.mark(0, 0);
        x.mark(0, 0);
        due("keep two", x.keep(1), 2);
        due("keep 2", x.keep(2), BAD);
        due("keep -1", x.keep(-1), BAD);
        due("the first one", x.back(0), 0);
        due("over again", x.keep(1), 0);
        due("the last one kept", x.back(1), 0);
    }

    private static void promise27Back() {
        FlueStack x = Due.told("size 4 4;hearth 0 2 9;");
        due("none kept", x.back(0), STATE);
        due("back 2", x.back(2), BAD);
        due("back -1", x.back(-1), BAD);
        x.mark(1, 2);
        x.turn(0, 1, 1);
        x.keep(0);
        due("not the other one", x.back(1), STATE);
        x.mark(1, 1);
        x.turn(0, 1, 0);
        x.tune(3, 7);
        x.wind(0, 0, 5);
        x.rate(0, 0);
        due("no way by both", x.guess(0), 0);
        Due.write(x, "xyz");
        due("back", x.back(0), 1);
        due("marks", x.guess(0), 8);
        due("the plan", x.way(0, 3), 3);
        due("not the tunes", x.tune(3, 7), 7);
        due("not the winds", x.wind(0, 0, 5), 5);
        due("not the trace", x.trace(), 1);
        due("not the text", x.count(4), 3);
        // marks come back as they were, not only as many
        x = Due.told("size 4 4;hearth 0 2 9;");
        x.mark(1, 2);
        x.keep(0);
        Due.tell(x, "size 4 4;hearth 0 2 9;");
        due("the image of another wall is gone", x.back(0), STATE);
        x.keep(1);
        x.mark(1, 3);
        x.keep(0);
        x.back(1);
        x.mark(2, 1);
        due("by another mark", x.guess(0), 6);
        x.back(0);
        due("by the first mark", x.guess(0), 5);
        x.turn(0, 1, 1);
        x.keep(0);
        // an image is a copy, and stays
        x.turn(0, 1, -1);
        x.mark(0, 0);
        x.mark(0, 0);
        due("back again", x.back(0), 1);
        due("the plan again", x.way(0, 1), 3);
        due("a mark goes on from there", x.mark(3, 3), 2);
    }

    private static void promise28Count() {
        FlueStack x = Due.told("size 7 5;hearth 0 2 9;beam 0 1 3;beam 0 2 4;beam 4 6 6;");
        Due.write(x, "size ");
        x.mark(0, 0);
        int[] due = {7, 5, 1, 1, 5, 5};
        for (int what = 0; what < 6; what++) {
            due("count(" + what + ")", x.count(what), due[what]);
        }
        due("count(6)", x.count(6), BAD);
        due("count(-1)", x.count(-1), BAD);
        due("count(max)", x.count(MAX), BAD);
    }

    private static void promise29Trace() {
        FlueStack x = Due.told("size 7 5;hearth 0 2 9;");
        due("none asked", x.trace(), 0);
        x.rate(3, 0);
        due("GATHER", x.trace(), 1101);
        x.rate(4, 0);
        due("and SHARED", x.trace(), 11112);
        Due.tell(x, "hearth 0 0 0;");
        due("a new wall", x.trace(), 11112);
        for (int i = 0; i < 400; i++) {
            x.rate(5, 0);
        }
        due("of all calls ever", x.trace(), 11112 + 400 * 100001L);
    }
}
