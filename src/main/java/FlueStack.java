import java.util.Arrays;

/** Many flues in one stack: a wall, ways up it, a plan of ways, how they draw, marks and kinds. */
public final class FlueStack {
    public static final int BAD = -1, STATE = -2, FULL = -3, NONE = -9;
    public static final int NO = -1000000;

    private static final int MOST_HEARTHS = 3;
    private static final int MOST_COLUMNS = 10;
    private static final int MOST_COURSES = 16;
    private static final int MOST_BYTES = 300;
    private static final int MOST_MARKS = 6;
    private static final int MOST_POT = 40;
    private static final int MOST_WIND = 9;
    private static final int QUARTERS = 4;
    private static final int IMAGES = 2;
    private static final int FIRST_SIZE = 10;

    private static final int GAP = 0, BEND = 1, CHILL = 2, LIFT = 3, BRUSH = 4, LIMIT = 5;
    private static final int TUNES = 6;
    private static final int[] LEAST_TUNES = {0, 0, 0, 1, 0, 0};
    private static final int[] MOST_TUNES = {3, 20, 20, 20, 9, 99};

    private static final int FLUE = 0, STRAIGHT = 1, LEAN = 2, GATHER = 3, SHARED = 4, OLD = 5;

    private final byte[] text = new byte[MOST_BYTES];
    private int textLength;
    private final Reader reader = new Reader();
    private final Wall bricks = new Wall();
    private final Wall draft = new Wall();
    private final int[] tunes = {1, 3, 1, 5, 1, 10};
    private final int[][] winds = new int[QUARTERS][MOST_COLUMNS];
    private final Scheme scheme = new Scheme();
    private final Judge judging = new Judge();
    private final Scheme firstImage = new Scheme();
    private final Scheme secondImage = new Scheme();
    private final boolean[] kept = new boolean[IMAGES];
    private final Ways ways = new Ways();
    private final Search search = new Search();
    private long traced;

    public FlueStack() {
    }

    // ---- the wall

    public int type(long v, int n) {
        if (n < 1 || n > 8) {
            return BAD;
        }
        if (textLength + n > MOST_BYTES) {
            return FULL;
        }
        for (int i = n - 1; i >= 0; i--) {
            text[textLength] = (byte) (v >>> (8 * i));
            textLength++;
        }
        return textLength;
    }

    public int clear() {
        int had = textLength;
        textLength = 0;
        return had;
    }

    public int wall() {
        int fault = reader.read(text, textLength, draft);
        if (fault >= 0) {
            return -10 - fault;
        }
        bricks.copyFrom(draft);
        textLength = 0;
        scheme.goStraightUp(bricks);
        scheme.marks = 0;
        for (int quarter = 0; quarter < QUARTERS; quarter++) {
            Arrays.fill(winds[quarter], 0);
        }
        for (int image = 0; image < IMAGES; image++) {
            kept[image] = false;
        }
        return bricks.hearths;
    }

    public int brick(int course, int column) {
        if (!bricks.hasBrick(course, column)) {
            return BAD;
        }
        return (bricks.isFree(course, column) ? 0 : 1) + (bricks.isCold(column) ? 2 : 0);
    }

    public int hearth(int h, int what) {
        if (!bricks.hasHearth(h)) {
            return BAD;
        }
        switch (what) {
            case 0:
                return bricks.courses[h];
            case 1:
                return bricks.columns[h];
            case 2:
                return bricks.needs[h];
            default:
                return BAD;
        }
    }

    public int tune(int what, int v) {
        if (what < 0 || what >= TUNES || v < LEAST_TUNES[what] || v > MOST_TUNES[what]) {
            return BAD;
        }
        int was = tunes[what];
        tunes[what] = v;
        return was;
    }

    public int wind(int quarter, int column, int v) {
        if (!hasQuarter(quarter) || !bricks.hasColumn(column) || v < -MOST_WIND || v > MOST_WIND) {
            return NO;
        }
        int was = winds[quarter][column];
        winds[quarter][column] = v;
        return was;
    }

    private static boolean hasQuarter(int quarter) {
        return quarter >= 0 && quarter < QUARTERS;
    }

    // ---- ways

    public long many(int h) {
        if (!bricks.hasHearth(h)) {
            return BAD;
        }
        ways.prepare(bricks, h);
        return ways.number();
    }

    public int one(int h, int r) {
        if (!bricks.hasHearth(h) || (r != -1 && r != -2 && !bricks.reaches(h, r))) {
            return BAD;
        }
        ways.prepare(bricks, h);
        if (!ways.findFewestBends()) {
            return NONE;
        }
        if (r == -1) {
            return ways.bends;
        }
        return r == -2 ? ways.leans : ways.path[r];
    }

    public int together(int set, int what) {
        if (!isSet(set) || what < 0 || what > 1) {
            return BAD;
        }
        putSet(set);
        if (!search.findsBest()) {
            return NONE;
        }
        return what == 0 ? search.breadth() : search.leans();
    }

    public int share(int what) {
        if (what < 0 || what > 1) {
            return BAD;
        }
        int set = sharedSet();
        return what == 0 ? set : Integer.bitCount(set);
    }

    public int more(int set, int course, int what) {
        // the one more needs a place among the three, so a set of all three is none
        if ((set != 0 && !isSet(set)) || set == (1 << MOST_HEARTHS) - 1
                || course < 0 || course > bricks.height - 2 || what < 0 || what > 1) {
            return BAD;
        }
        putSet(set);
        int guest = placeBeside(set);
        int number = 0;
        int first = NONE;
        for (int column = 0; column < bricks.width; column++) {
            search.put(guest, course, column);
            if (search.findsAny()) {
                number++;
                first = first == NONE ? column : first;
            }
            search.forgetUpTo(course);
        }
        return what == 0 ? number : first;
    }

    private boolean isSet(int set) {
        return set >= 1 && set < 1 << bricks.hearths;
    }

    /** The lowest of the three places that a set leaves free. */
    private static int placeBeside(int set) {
        if ((set & 1) == 0) {
            return 0;
        }
        return (set & 2) == 0 ? 1 : 2;
    }

    private void putSet(int set) {
        search.prepare(bricks, tunes[GAP], 0);
        for (int h = 0; h < bricks.hearths; h++) {
            if ((set >> h & 1) != 0) {
                search.put(h, bricks.courses[h], bricks.columns[h]);
            }
        }
    }

    private int sharedSet() {
        for (int size = bricks.hearths; size >= 1; size--) {
            for (int set = 1; set < 1 << bricks.hearths; set++) {
                if (Integer.bitCount(set) == size) {
                    putSet(set);
                    if (search.findsAny()) {
                        return set;
                    }
                }
            }
        }
        return 0;
    }

    // ---- the plan

    public int take(int set) {
        if (!isSet(set)) {
            return BAD;
        }
        putSet(set);
        if (!search.findsBest()) {
            return STATE;
        }
        search.tell(scheme);
        return 1;
    }

    public int way(int h, int r) {
        if (!bricks.hasHearth(h) || !bricks.reaches(h, r)) {
            return NO;
        }
        return scheme.columns[h][r];
    }

    public int turn(int h, int r, int d) {
        if (!bricks.hasHearth(h) || !bricks.reaches(h, r - 1L) || !bricks.hasCourse(r) || d < -1 || d > 1) {
            return NO;
        }
        int was = scheme.columns[h][r] - scheme.columns[h][r - 1];
        for (int course = r; course < bricks.height; course++) {
            scheme.columns[h][course] += d - was;
        }
        return was;
    }

    public int judge(int what) {
        if (what < 0 || what > 2) {
            return BAD;
        }
        if (judging.findsNone(bricks, scheme, tunes[GAP])) {
            return NONE;
        }
        if (what == 0) {
            return judging.trouble;
        }
        return what == 1 ? judging.culprit : judging.course;
    }

    public int plan(int h, int what) {
        if (!bricks.hasHearth(h)) {
            return BAD;
        }
        switch (what) {
            case 0:
                return scheme.bends(bricks, h);
            case 1:
                return scheme.leans(bricks, h);
            case 2:
                return scheme.coldCourses(bricks, h);
            case 3:
                return doors(scheme.bends(bricks, h));
            default:
                return BAD;
        }
    }

    public int draw(int h, int quarter) {
        if (!bricks.hasHearth(h) || !hasQuarter(quarter)) {
            return NO;
        }
        return strength(h, quarter);
    }

    public int smokes(int h, int other, int quarter) {
        if (!bricks.hasHearth(h) || !bricks.hasHearth(other) || !hasQuarter(quarter)) {
            return BAD;
        }
        return strength(h, quarter) < wanted(h, other, quarter) ? 1 : 0;
    }

    public int mend(int h) {
        if (!bricks.hasHearth(h)) {
            return BAD;
        }
        int lack = 0;
        for (int quarter = 0; quarter < QUARTERS; quarter++) {
            for (int other = 0; other < bricks.hearths; other++) {
                lack = Math.max(lack, wanted(h, other, quarter) - strength(h, quarter));
            }
        }
        for (int pot = 0; pot <= MOST_POT; pot++) {
            if (pot * tunes[LIFT] >= lack) {
                return pot;
            }
        }
        return NONE;
    }

    public int moved(int columns, int what) {
        if (columns < 0 || columns >= 1 << MOST_COLUMNS || what < 0 || what > 1) {
            return BAD;
        }
        if (!judging.findsNone(bricks, scheme, tunes[GAP])) {
            return STATE;
        }
        int set = fewestMoved(columns);
        if (set == NONE) {
            return NONE;
        }
        return what == 0 ? Integer.bitCount(set) : set;
    }

    private int doors(int bends) {
        // bends part the flue into straight lengths: the pot and the hearth each give BRUSH of them
        // and their own, a door its own and BRUSH to either side
        int brush = tunes[BRUSH];
        int left = bends + 1 - 2 * (brush + 1);
        int each = 2 * brush + 1;
        return left <= 0 || each <= 0 ? 0 : (left + each - 1) / each;
    }

    private int strength(int h, int quarter) {
        int top = bricks.height - 1;
        int pot = scheme.columns[h][top];
        int wind = bricks.hasColumn(pot) ? winds[quarter][pot] : 0;
        return tunes[LIFT] * bricks.above(h) - tunes[BEND] * scheme.bends(bricks, h)
                - tunes[CHILL] * scheme.coldCourses(bricks, h) + wind;
    }

    /** The least draw at which a hearth does not smoke when the other one is lit, too. */
    private int wanted(int h, int other, int quarter) {
        int need = bricks.needs[h];
        return other == h ? need : Math.max(need, strength(other, quarter) - tunes[LIMIT]);
    }

    private int fewestMoved(int columns) {
        for (int size = 0; size <= bricks.hearths; size++) {
            for (int set = 0; set < 1 << bricks.hearths; set++) {
                if (Integer.bitCount(set) == size) {
                    putAllMoving(set, columns);
                    if (search.findsAny()) {
                        return set;
                    }
                }
            }
        }
        return NONE;
    }

    /** All hearths: those of the set may get other ways, the others keep theirs of the plan. */
    private void putAllMoving(int set, int columns) {
        search.prepare(bricks, tunes[GAP], columns);
        for (int h = 0; h < bricks.hearths; h++) {
            search.put(h, bricks.courses[h], bricks.columns[h]);
            if ((set >> h & 1) == 0) {
                search.fix(h, scheme);
            }
        }
    }

    // ---- marks, kinds, images

    public int mark(int course, int column) {
        if (!bricks.hasBrick(course, column)) {
            return BAD;
        }
        if (scheme.marks >= MOST_MARKS) {
            return FULL;
        }
        scheme.markCourses[scheme.marks] = course;
        scheme.markColumns[scheme.marks] = column;
        scheme.marks++;
        return scheme.marks;
    }

    public long guess(int h) {
        if (!bricks.hasHearth(h)) {
            return BAD;
        }
        ways.prepare(bricks, h);
        ways.hear(scheme);
        return ways.number();
    }

    public int rate(int kind, int h) {
        if (!bricks.hasHearth(h)) {
            return NO;
        }
        switch (kind) {
            case FLUE:
                return rateFlue(h);
            case STRAIGHT:
                return rateStraight(h);
            case LEAN:
                return rateLean(h);
            case GATHER:
                return rateGather(h);
            case SHARED:
                return rateShared(h);
            case OLD:
                return rateOld(h);
            default:
                return NO;
        }
    }

    public int keep(int image) {
        if (image < 0 || image >= IMAGES) {
            return BAD;
        }
        imageOf(image).copyFrom(scheme);
        kept[image] = true;
        return scheme.marks;
    }

    public int back(int image) {
        if (image < 0 || image >= IMAGES) {
            return BAD;
        }
        if (!kept[image]) {
            return STATE;
        }
        scheme.copyFrom(imageOf(image));
        return scheme.marks;
    }

    public int count(int what) {
        switch (what) {
            case 0:
                return bricks.width;
            case 1:
                return bricks.height;
            case 2:
                return bricks.hearths;
            case 3:
                return scheme.marks;
            case 4:
                return textLength;
            case 5:
                return bricks.barredBricks();
            default:
                return BAD;
        }
    }

    public long trace() {
        return traced;
    }

    private Scheme imageOf(int image) {
        return image == 0 ? firstImage : secondImage;
    }

    private int rateFlue(int h) {
        traced += 1;
        return bricks.above(h);
    }

    private int rateStraight(int h) {
        traced += 10;
        return rateFlue(h) - scheme.leans(bricks, h);
    }

    private int rateLean(int h) {
        traced += 100;
        return rateFlue(h) + scheme.bends(bricks, h);
    }

    private int rateGather(int h) {
        traced += 1000;
        return rateLean(h) * 2;
    }

    private int rateShared(int h) {
        traced += 10000;
        return rateStraight(h) + bricks.hearths;
    }

    private int rateOld(int h) {
        traced += 100000;
        return rateFlue(h) - bricks.needs[h];
    }

    /** The wall: its size, what is barred (bits of columns for each course), cold columns, hearths. */
    private static final class Wall {
        int width = FIRST_SIZE;
        int height = FIRST_SIZE;
        int cold;
        int hearths;
        final int[] barred = new int[MOST_COURSES];
        final int[] courses = new int[MOST_HEARTHS];
        final int[] columns = new int[MOST_HEARTHS];
        final int[] needs = new int[MOST_HEARTHS];

        void reset() {
            width = FIRST_SIZE;
            height = FIRST_SIZE;
            cold = 0;
            hearths = 0;
            Arrays.fill(barred, 0);
        }

        void copyFrom(Wall other) {
            width = other.width;
            height = other.height;
            cold = other.cold;
            hearths = other.hearths;
            System.arraycopy(other.barred, 0, barred, 0, MOST_COURSES);
            System.arraycopy(other.courses, 0, courses, 0, MOST_HEARTHS);
            System.arraycopy(other.columns, 0, columns, 0, MOST_HEARTHS);
            System.arraycopy(other.needs, 0, needs, 0, MOST_HEARTHS);
        }

        boolean hasCourse(int course) {
            return course >= 0 && course < height;
        }

        boolean hasColumn(int column) {
            return column >= 0 && column < width;
        }

        boolean hasBrick(int course, int column) {
            return hasCourse(course) && hasColumn(column);
        }

        boolean hasHearth(int h) {
            return h >= 0 && h < hearths;
        }

        boolean isFree(int course, int column) {
            return hasBrick(course, column) && (barred[course] >> column & 1) == 0;
        }

        boolean isCold(int column) {
            return hasColumn(column) && (cold >> column & 1) != 0;
        }

        /** Whether the flue of a hearth has a column in the course; a long, so that a course less 1 is safe. */
        boolean reaches(int h, long course) {
            return course >= courses[h] && course < height;
        }

        int above(int h) {
            return height - 1 - courses[h];
        }

        /** Bits of the columns of a course that are not barred. */
        int freeColumns(int course) {
            return ((1 << width) - 1) & ~barred[course];
        }

        int barredBricks() {
            int number = 0;
            for (int course = 0; course < height; course++) {
                number += width - Integer.bitCount(freeColumns(course));
            }
            return number;
        }
    }

    /** Reads a wall from a text: parts it in tokens, then takes these one by one; the one at hand is the fault. */
    private static final class Reader {
        private static final int NOTHING = 0, SIZE = 1, BEAM = 2, COLD = 3, HEARTH = 4, NUMBER = 5, CLOSE = 6;
        private static final int MOST_NUMBER = 99;

        private byte[] bytes = new byte[0];
        private int length;
        private int next;
        private final int[] kinds = new int[MOST_BYTES];
        private final int[] places = new int[MOST_BYTES];
        private final int[] values = new int[MOST_BYTES];
        private int tokens;
        private int hand;
        private int value;

        /** The fault, or NONE. */
        int read(byte[] from, int size, Wall wall) {
            bytes = from;
            length = Math.min(size, from.length);
            part();
            wall.reset();
            hand = 0;
            for (int items = 0; items < tokens && hand < tokens; items++) {
                if (!readItem(wall)) {
                    return hand < tokens ? places[hand] : length;
                }
                hand++;
            }
            return NONE;
        }

        private boolean readItem(Wall wall) {
            switch (kinds[hand]) {
                case SIZE:
                    return hand == 0 && readSize(wall) && readClose();
                case BEAM:
                    return readBeam(wall) && readClose();
                case COLD:
                    return readCold(wall) && readClose();
                case HEARTH:
                    return wall.hearths < MOST_HEARTHS && readHearth(wall) && readClose();
                default:
                    return false;
            }
        }

        private boolean readSize(Wall wall) {
            if (!readNumber(2, MOST_COLUMNS)) {
                return false;
            }
            wall.width = value;
            if (!readNumber(2, MOST_COURSES)) {
                return false;
            }
            wall.height = value;
            return true;
        }

        private boolean readBeam(Wall wall) {
            if (!readNumber(0, wall.height - 1)) {
                return false;
            }
            int course = value;
            int bits = readSpan(wall);
            if (bits == 0) {
                return false;
            }
            wall.barred[course] |= bits;
            return true;
        }

        private boolean readCold(Wall wall) {
            int bits = readSpan(wall);
            wall.cold |= bits;
            return bits != 0;
        }

        private boolean readHearth(Wall wall) {
            int h = wall.hearths;
            if (!readNumber(0, wall.height - 2)) {
                return false;
            }
            wall.courses[h] = value;
            if (!readNumber(0, wall.width - 1)) {
                return false;
            }
            wall.columns[h] = value;
            if (!readNumber(0, MOST_NUMBER)) {
                return false;
            }
            wall.needs[h] = value;
            wall.hearths++;
            return true;
        }

        /** Bits of the columns from one told to another; 0 if they are not told rightly. */
        private int readSpan(Wall wall) {
            if (!readNumber(0, wall.width - 1)) {
                return 0;
            }
            int from = value;
            if (!readNumber(from, wall.width - 1)) {
                return 0;
            }
            return ((1 << (value + 1)) - 1) & ~((1 << from) - 1);
        }

        private boolean readNumber(int least, int most) {
            hand++;
            if (hand >= tokens || kinds[hand] != NUMBER) {
                return false;
            }
            value = values[hand];
            return value >= least && value <= most;
        }

        private boolean readClose() {
            hand++;
            return hand < tokens && kinds[hand] == CLOSE;
        }

        private void part() {
            tokens = 0;
            next = 0;
            while (next < length && tokens < MOST_BYTES) {
                if (byteAt(next) == ' ') {
                    next++;
                } else {
                    places[tokens] = next;
                    kinds[tokens] = partToken();
                    values[tokens] = value;
                    tokens++;
                }
            }
        }

        /** What kind of token begins at the next byte; behind it the next one is. */
        private int partToken() {
            int begin = next;
            if (letterAt(begin)) {
                return partWord(begin);
            }
            if (digitAt(begin)) {
                return partNumber(begin);
            }
            next++;
            return byteAt(begin) == ';' ? CLOSE : NOTHING;
        }

        private int partWord(int begin) {
            while (next < length && letterAt(next)) {
                next++;
            }
            if (wordIs(begin, "size")) {
                return SIZE;
            }
            if (wordIs(begin, "beam")) {
                return BEAM;
            }
            if (wordIs(begin, "cold")) {
                return COLD;
            }
            return wordIs(begin, "hearth") ? HEARTH : NOTHING;
        }

        private boolean wordIs(int begin, String word) {
            if (next - begin != word.length()) {
                return false;
            }
            for (int i = 0; i < word.length(); i++) {
                if (byteAt(begin + i) != word.charAt(i)) {
                    return false;
                }
            }
            return true;
        }

        private int partNumber(int begin) {
            value = 0;
            while (next < length && digitAt(next)) {
                // held down, so that three hundred digits don't wrap around into a small number
                value = Math.min(value * 10 + byteAt(next) - '0', MOST_NUMBER + 1);
                next++;
            }
            boolean zeroAhead = next - begin > 1 && byteAt(begin) == '0';
            return zeroAhead || value > MOST_NUMBER ? NOTHING : NUMBER;
        }

        private boolean letterAt(int place) {
            int sign = byteAt(place);
            return sign >= 'a' && sign <= 'z';
        }

        private boolean digitAt(int place) {
            int sign = byteAt(place);
            return sign >= '0' && sign <= '9';
        }

        private int byteAt(int place) {
            return place >= 0 && place < length ? bytes[place] & 255 : -1;
        }
    }

    /** What an image keeps: the plan and the marks. */
    private static final class Scheme {
        final int[][] columns = new int[MOST_HEARTHS][MOST_COURSES];
        final int[] markCourses = new int[MOST_MARKS];
        final int[] markColumns = new int[MOST_MARKS];
        int marks;

        void copyFrom(Scheme other) {
            for (int h = 0; h < MOST_HEARTHS; h++) {
                System.arraycopy(other.columns[h], 0, columns[h], 0, MOST_COURSES);
            }
            System.arraycopy(other.markCourses, 0, markCourses, 0, MOST_MARKS);
            System.arraycopy(other.markColumns, 0, markColumns, 0, MOST_MARKS);
            marks = other.marks;
        }

        void goStraightUp(Wall wall) {
            for (int h = 0; h < MOST_HEARTHS; h++) {
                Arrays.fill(columns[h], wall.hasHearth(h) ? wall.columns[h] : 0);
            }
        }

        int leans(Wall wall, int h) {
            int leans = 0;
            for (int course = wall.courses[h] + 1; course < wall.height; course++) {
                if (columns[h][course] != columns[h][course - 1]) {
                    leans++;
                }
            }
            return leans;
        }

        int bends(Wall wall, int h) {
            int bends = 0;
            for (int course = wall.courses[h] + 2; course < wall.height; course++) {
                int ahead = columns[h][course - 1] - columns[h][course - 2];
                if (columns[h][course] - columns[h][course - 1] != ahead) {
                    bends++;
                }
            }
            return bends;
        }

        int coldCourses(Wall wall, int h) {
            int number = 0;
            for (int course = wall.courses[h]; course < wall.height; course++) {
                if (wall.isCold(columns[h][course])) {
                    number++;
                }
            }
            return number;
        }
    }

    /** Judges a plan: the first trouble, whose it is and in which course. */
    private static final class Judge {
        private static final int WELL = 0, OUTSIDE = 1, IN_BEAM = 2, TOO_NEAR = 3, CROSSED = 4;

        int trouble;
        int culprit;
        int course;

        boolean findsNone(Wall wall, Scheme scheme, int gap) {
            for (int r = 0; r < wall.height; r++) {
                for (int h = 0; h < wall.hearths; h++) {
                    trouble = wall.reaches(h, r) ? troubleOf(wall, scheme, gap, h, r) : WELL;
                    culprit = h;
                    course = r;
                    if (trouble != WELL) {
                        return false;
                    }
                }
            }
            return true;
        }

        private static int troubleOf(Wall wall, Scheme scheme, int gap, int h, int r) {
            int column = scheme.columns[h][r];
            if (!wall.hasColumn(column)) {
                return OUTSIDE;
            }
            if (!wall.isFree(r, column)) {
                return IN_BEAM;
            }
            for (int other = 0; other < h; other++) {
                if (wall.reaches(other, r) && Math.abs(column - scheme.columns[other][r]) <= gap) {
                    return TOO_NEAR;
                }
            }
            for (int other = 0; other < h; other++) {
                if (crosses(wall, scheme, h, other, r)) {
                    return CROSSED;
                }
            }
            return WELL;
        }

        private static boolean crosses(Wall wall, Scheme scheme, int h, int other, int r) {
            if (r <= wall.courses[h] || r <= wall.courses[other]) {
                return false;
            }
            int[] its = scheme.columns[h];
            int[] others = scheme.columns[other];
            return (its[r - 1] < others[r - 1]) != (its[r] < others[r]);
        }
    }

    /** The ways of one hearth alone: how many, and the one with the fewest bends. */
    private static final class Ways {
        private static final int STRAIGHT_UP = 1, NO_STEP = 3;
        private static final int STEPS = 4;
        private static final int A_BEND = 100;
        private static final int FAR = 1000000;

        private final int[] open = new int[MOST_COURSES];
        private final long[] numbers = new long[MOST_COLUMNS];
        private final long[] higher = new long[MOST_COLUMNS];
        // for each course, column and step that led there: the cost of the best rest of the way and its
        // first step, cost * STEPS + step, so that the least of these is the first by columns, too
        private final int[] rests = new int[MOST_COURSES * MOST_COLUMNS * STEPS];
        private int width;
        private int first;
        private int last;
        private int start;
        final int[] path = new int[MOST_COURSES];
        int bends;
        int leans;

        void prepare(Wall wall, int h) {
            width = wall.width;
            first = wall.courses[h];
            last = wall.height - 1;
            start = wall.columns[h];
            for (int course = 0; course <= last; course++) {
                open[course] = wall.freeColumns(course);
            }
        }

        void hear(Scheme scheme) {
            for (int i = 0; i < scheme.marks; i++) {
                open[scheme.markCourses[i]] &= 1 << scheme.markColumns[i];
            }
        }

        private boolean isOpen(int course, int column) {
            return column >= 0 && column < width && (open[course] >> column & 1) != 0;
        }

        long number() {
            Arrays.fill(numbers, 0);
            numbers[start] = isOpen(first, start) ? 1 : 0;
            for (int course = first + 1; course <= last; course++) {
                for (int column = 0; column < width; column++) {
                    higher[column] = isOpen(course, column) ? numberBelow(column) : 0;
                }
                System.arraycopy(higher, 0, numbers, 0, width);
            }
            long all = 0;
            for (int column = 0; column < width; column++) {
                all += numbers[column];
            }
            return all;
        }

        private long numberBelow(int column) {
            long left = column > 0 ? numbers[column - 1] : 0;
            long right = column + 1 < width ? numbers[column + 1] : 0;
            return left + numbers[column] + right;
        }

        boolean findFewestBends() {
            if (!isOpen(first, start)) {
                return false;
            }
            for (int course = last; course >= first; course--) {
                for (int column = 0; column < width; column++) {
                    for (int ahead = 0; ahead < STEPS; ahead++) {
                        rests[place(course, column, ahead)] = leastRest(course, column, ahead);
                    }
                }
            }
            int rest = rests[place(first, start, NO_STEP)];
            if (rest >= FAR) {
                return false;
            }
            bends = rest / STEPS / A_BEND;
            leans = rest / STEPS % A_BEND;
            walk();
            return true;
        }

        private static int place(int course, int column, int ahead) {
            return (course * MOST_COLUMNS + column) * STEPS + ahead;
        }

        private int leastRest(int course, int column, int ahead) {
            if (course == last) {
                return 0;
            }
            int least = FAR;
            for (int step = 0; step < NO_STEP; step++) {
                least = Math.min(least, restBy(course + 1, column + step - 1, ahead, step));
            }
            return least;
        }

        private int restBy(int course, int column, int ahead, int step) {
            if (!isOpen(course, column)) {
                return FAR;
            }
            int rest = rests[place(course, column, step)];
            if (rest >= FAR) {
                return FAR;
            }
            int bend = ahead != NO_STEP && ahead != step ? A_BEND : 0;
            int lean = step != STRAIGHT_UP ? 1 : 0;
            return (rest / STEPS + bend + lean) * STEPS + step;
        }

        private void walk() {
            int column = start;
            int ahead = NO_STEP;
            path[first] = column;
            for (int course = first; course < last && isOpen(course, column); course++) {
                ahead = rests[place(course, column, ahead)] % STEPS;
                column += ahead - 1;
                path[course + 1] = column;
            }
        }
    }

    /**
     * Ways of up to three hearths together. A state is the columns of all three in one course, a
     * decimal digit each, the lowest hearth's first, 0 for one that is not there yet. What is known
     * of a state is the cost of the best rest of the ways and the state that comes next in it,
     * cost * STATES + next: so the least of these is the first by columns, too.
     */
    private static final class Search {
        private static final int STATES = 1000;
        private static final int A_COLUMN = 100;
        private static final int FAR = 1000000000;
        private static final int ALL_COLUMNS = (1 << MOST_COLUMNS) - 1;
        private static final int NOT_THERE = 1;

        // for each course and each state in the course below it; 0 where nothing is known yet
        private final int[][] known = new int[MOST_COURSES + 1][STATES];
        private final int[] free = new int[MOST_COURSES];
        // for each hearth and course: bits of the columns in which it may be
        private final int[][] open = new int[MOST_HEARTHS][MOST_COURSES];
        private final int[] firsts = new int[MOST_HEARTHS];
        private int last;
        private int gap;
        private boolean anyWillDo;

        void prepare(Wall wall, int leastGap, int closed) {
            last = wall.height - 1;
            gap = leastGap;
            for (int course = 0; course <= last; course++) {
                free[course] = wall.freeColumns(course) & ~closed;
            }
            for (int h = 0; h < MOST_HEARTHS; h++) {
                firsts[h] = MOST_COURSES;
                Arrays.fill(open[h], NOT_THERE);
            }
            forgetUpTo(last + 1);
        }

        void put(int h, int course, int column) {
            firsts[h] = course;
            System.arraycopy(free, course, open[h], course, MOST_COURSES - course);
            open[h][course] &= 1 << column;
        }

        /** Leaves a hearth its way of the plan alone. */
        void fix(int h, Scheme scheme) {
            for (int course = firsts[h]; course <= last; course++) {
                open[h][course] &= 1 << scheme.columns[h][course];
            }
        }

        /** Where a hearth begins matters up to its own course only: what is known above that stays good. */
        void forgetUpTo(int top) {
            for (int course = 0; course <= top && course <= MOST_COURSES; course++) {
                Arrays.fill(known[course], 0);
            }
        }

        /** Whether there are ways at all: the first that are found will do. */
        boolean findsAny() {
            anyWillDo = true;
            return restFrom(0, 0) < FAR;
        }

        boolean findsBest() {
            anyWillDo = false;
            return restFrom(0, 0) < FAR;
        }

        int breadth() {
            return restFrom(0, 0) / STATES / A_COLUMN;
        }

        int leans() {
            return restFrom(0, 0) / STATES % A_COLUMN;
        }

        void tell(Scheme scheme) {
            int state = 0;
            for (int course = 0; course <= last; course++) {
                int rest = restFrom(course, state);
                if (rest >= FAR) {
                    return;
                }
                state = rest % STATES;
                for (int h = 0; h < MOST_HEARTHS; h++) {
                    if (course >= firsts[h]) {
                        scheme.columns[h][course] = columnIn(state, h);
                    }
                }
            }
        }

        private static int columnIn(int state, int h) {
            if (h == 0) {
                return state / 100;
            }
            return h == 1 ? state / 10 % 10 : state % 10;
        }

        /** The best rest from a course on; it asks the next course, and none above the last one asks. */
        private int restFrom(int course, int state) {
            if (course < 0 || course > MOST_COURSES || state < 0 || state >= STATES) {
                return FAR;
            }
            if (known[course][state] == 0) {
                known[course][state] = course > last ? breadthOf(state) * A_COLUMN * STATES
                        : leastRest(course, columnIn(state, 0), columnIn(state, 1), columnIn(state, 2));
            }
            return known[course][state];
        }

        private int breadthOf(int state) {
            int least = MOST_COLUMNS;
            int most = -1;
            for (int h = 0; h < MOST_HEARTHS; h++) {
                if (last >= firsts[h]) {
                    least = Math.min(least, columnIn(state, h));
                    most = Math.max(most, columnIn(state, h));
                }
            }
            // 1 for no hearth at all: what is known must not look as if it were not
            return Math.max(1, most - least + 1);
        }

        /** Tries all columns in a course for hearths that stood in a, b and c one course below. */
        private int leastRest(int course, int a, int b, int c) {
            int least = FAR;
            int mostX = highest(0, course, a);
            int leastY = lowest(1, course, b);
            int mostY = highest(1, course, b);
            int leastZ = lowest(2, course, c);
            int mostZ = highest(2, course, c);
            for (int x = lowest(0, course, a); x <= mostX; x++) {
                if ((open[0][course] >> x & 1) == 0) {
                    continue;
                }
                int ys = open[1][course] & leftBy(0, x, 1, course, a < b);
                int zs = open[2][course] & leftBy(0, x, 2, course, a < c);
                for (int y = leastY; y <= mostY; y++) {
                    if ((ys >> y & 1) == 0) {
                        continue;
                    }
                    int zsLeft = zs & leftBy(1, y, 2, course, b < c);
                    int leans = lean(0, course, x - a) + lean(1, course, y - b);
                    for (int z = leastZ; z <= mostZ; z++) {
                        if ((zsLeft >> z & 1) == 0) {
                            continue;
                        }
                        int all = leans + lean(2, course, z - c);
                        least = Math.min(least, restBy(course, x * 100 + y * 10 + z, all));
                        if (anyWillDo && least < FAR) {
                            return least;
                        }
                    }
                }
            }
            return least;
        }

        private int restBy(int course, int state, int leans) {
            int rest = restFrom(course + 1, state);
            return rest >= FAR ? FAR : (rest / STATES + leans) * STATES + state;
        }

        private int lowest(int h, int course, int below) {
            return course > firsts[h] ? Math.max(0, below - 1) : 0;
        }

        private int highest(int h, int course, int below) {
            if (course < firsts[h]) {
                return 0;
            }
            return course > firsts[h] ? Math.min(MOST_COLUMNS - 1, below + 1) : MOST_COLUMNS - 1;
        }

        /** Bits of the columns that a hearth in its own leaves to another one: off the gap, and where that was. */
        private int leftBy(int g, int column, int h, int course, boolean wasLeft) {
            if (course < firsts[g] || course < firsts[h]) {
                return ALL_COLUMNS;
            }
            int lesser = (1 << Math.max(0, column - gap)) - 1;
            int greater = ALL_COLUMNS << (column + gap + 1);
            if (course == firsts[g] || course == firsts[h]) {
                return lesser | greater;
            }
            return wasLeft ? greater : lesser;
        }

        private int lean(int h, int course, int step) {
            return course > firsts[h] && step != 0 ? 1 : 0;
        }
    }
}
