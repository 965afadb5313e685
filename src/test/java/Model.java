import java.util.ArrayList;
import java.util.Arrays;
import java.util.HashMap;
import java.util.List;
import java.util.Map;
import java.util.regex.Matcher;
import java.util.regex.Pattern;

/** The document once more, told as slowly and as plainly as can be: what the class is compared with. */
final class Model {
    static final int BAD = -1, STATE = -2, FULL = -3, NONE = -9, NO = -1000000;

    String text = "";
    int w = 10, h = 10;
    boolean[][] barred = new boolean[16][10];
    boolean[] cold = new boolean[10];
    List<int[]> hearths = new ArrayList<>();
    int[] tunes = {1, 3, 1, 5, 1, 10};
    int[][] winds = new int[4][10];
    List<int[]> plan = new ArrayList<>();
    List<int[]> marks = new ArrayList<>();
    Object[][] images = new Object[2][];
    long trace = 0;
    /** Whether ways together are all written out, or found from below, the best for each row of columns. */
    boolean writtenOut = true;
    /** While ways are found from below for moved(): columns that are barred, flues that keep their ways. */
    private int closed = 0, keeping = 0;

    // ---- the wall

    int type(long v, int n) {
        if (n < 1 || n > 8) return BAD;
        if (text.length() + n > 300) return FULL;
        String piece = "";
        for (int i = 0; i < n; i++) {
            piece = (char) (v & 255) + piece;
            v >>= 8;
        }
        text += piece;
        return text.length();
    }

    int clear() {
        int had = text.length();
        text = "";
        return had;
    }

    int wall() {
        // tokens and their places, END's being the length
        List<String> tokens = new ArrayList<>();
        List<Integer> places = new ArrayList<>();
        Matcher m = Pattern.compile("[a-z]+|[0-9]+|;|[^ ]", Pattern.DOTALL).matcher(text);
        while (m.find()) {
            tokens.add(m.group());
            places.add(m.start());
        }
        tokens.add("END");
        places.add(text.length());
        int nw = 10, nh = 10;
        boolean[][] nb = new boolean[16][10];
        boolean[] nc = new boolean[10];
        List<int[]> nhearths = new ArrayList<>();
        int i = 0;
        while (!tokens.get(i).equals("END")) {
            String word = tokens.get(i);
            int many = switch (word) {
                case "size", "cold" -> 2;
                case "beam", "hearth" -> 3;
                default -> -1;
            };
            if (many < 0 || (word.equals("size") && i > 0) || (word.equals("hearth") && nhearths.size() == 3)) {
                return -10 - places.get(i);
            }
            int[] v = new int[3];
            for (int k = 0; k < many; k++) {
                String t = tokens.get(i + 1 + k);
                if (!t.matches("0|[1-9][0-9]?")) return -10 - places.get(i + 1 + k);
                v[k] = Integer.parseInt(t);
                int[][] range = switch (word) {
                    case "size" -> new int[][] {{2, 10}, {2, 16}};
                    case "cold" -> new int[][] {{0, nw - 1}, {v[0], nw - 1}};
                    case "beam" -> new int[][] {{0, nh - 1}, {0, nw - 1}, {v[1], nw - 1}};
                    default -> new int[][] {{0, nh - 2}, {0, nw - 1}, {0, 99}};
                };
                if (v[k] < range[k][0] || v[k] > range[k][1]) return -10 - places.get(i + 1 + k);
            }
            if (!tokens.get(i + 1 + many).equals(";")) return -10 - places.get(i + 1 + many);
            switch (word) {
                case "size" -> { nw = v[0]; nh = v[1]; }
                case "cold" -> Arrays.fill(nc, v[0], v[1] + 1, true);
                case "beam" -> Arrays.fill(nb[v[0]], v[1], v[2] + 1, true);
                default -> nhearths.add(v);
            }
            i += many + 2;
        }
        w = nw;
        h = nh;
        barred = nb;
        cold = nc;
        hearths = nhearths;
        text = "";
        winds = new int[4][10];
        marks = new ArrayList<>();
        images = new Object[2][];
        plan = new ArrayList<>();
        for (int[] hearth : hearths) {
            int[] way = new int[h];
            Arrays.fill(way, hearth[1]);
            plan.add(way);
        }
        return hearths.size();
    }

    int brick(int course, int column) {
        if (course < 0 || course >= h || column < 0 || column >= w) return BAD;
        return (barred[course][column] ? 1 : 0) + (cold[column] ? 2 : 0);
    }

    int hearth(int i, int what) {
        return !has(i) || what < 0 || what > 2 ? BAD : hearths.get(i)[what];
    }

    int tune(int what, int v) {
        int[][] ranges = {{0, 3}, {0, 20}, {0, 20}, {1, 20}, {0, 9}, {0, 99}};
        if (what < 0 || what > 5 || v < ranges[what][0] || v > ranges[what][1]) return BAD;
        int was = tunes[what];
        tunes[what] = v;
        return was;
    }

    int wind(int quarter, int column, int v) {
        if (quarter < 0 || quarter > 3 || column < 0 || column >= w || v < -9 || v > 9) return NO;
        int was = winds[quarter][column];
        winds[quarter][column] = v;
        return was;
    }

    private boolean has(int i) {
        return i >= 0 && i < hearths.size();
    }

    // ---- ways

    /** All ways from a place, first by columns ahead; a way has -1 in courses below its own. */
    private List<int[]> waysFrom(int course, int column, int closed) {
        List<int[]> all = new ArrayList<>();
        int[] way = new int[h];
        Arrays.fill(way, -1);
        grow(course, column, closed, way, all);
        return all;
    }

    private void grow(int course, int column, int closed, int[] way, List<int[]> all) {
        if (column < 0 || column >= w || barred[course][column] || (closed >> column & 1) != 0) return;
        way[course] = column;
        if (course == h - 1) {
            all.add(way.clone());
            return;
        }
        for (int d = -1; d <= 1; d++) grow(course + 1, column + d, closed, way, all);
    }

    private List<int[]> ways(int i) {
        return waysFrom(hearths.get(i)[0], hearths.get(i)[1], 0);
    }

    private int leans(int[] way, int own) {
        int n = 0;
        for (int r = own + 1; r < h; r++) if (way[r] != way[r - 1]) n++;
        return n;
    }

    private int bends(int[] way, int own) {
        int n = 0;
        for (int r = own + 2; r < h; r++) if (way[r] - way[r - 1] != way[r - 1] - way[r - 2]) n++;
        return n;
    }

    long many(int i) {
        return has(i) ? ways(i).size() : BAD;
    }

    int one(int i, int r) {
        if (!has(i) || r < -2 || r >= h || (r >= 0 && r < hearths.get(i)[0])) return BAD;
        int own = hearths.get(i)[0];
        int[] best = null;
        for (int[] way : ways(i)) {
            if (best == null || bends(way, own) < bends(best, own)
                    || (bends(way, own) == bends(best, own) && leans(way, own) < leans(best, own))) {
                best = way;
            }
        }
        if (best == null) return NONE;
        return r == -1 ? bends(best, own) : r == -2 ? leans(best, own) : best[r];
    }

    /** Breadth, leans and columns of the best of several flues; null: they do not go together. */
    private record Best(int breadth, int leans, List<int[]> ways) {
    }

    /** A flue that is to go with others: where it begins, and the ways that it may have. */
    private record Flue(int own, List<int[]> ways) {
    }

    private boolean together(int[] a, int ownA, int[] b, int ownB) {
        int side = 0;
        for (int r = Math.max(ownA, ownB); r < h; r++) {
            int apart = a[r] - b[r];
            if (Math.abs(apart) <= tunes[0] || (side != 0 && Integer.signum(apart) != side)) return false;
            side = Integer.signum(apart);
        }
        return true;
    }

    private Best best(List<Flue> flues) {
        Best[] best = new Best[1];
        choose(flues, new ArrayList<>(), best);
        return best[0];
    }

    private void choose(List<Flue> flues, List<int[]> chosen, Best[] best) {
        if (chosen.size() == flues.size()) {
            int least = 99, most = -1, leans = 0;
            for (int i = 0; i < chosen.size(); i++) {
                least = Math.min(least, chosen.get(i)[h - 1]);
                most = Math.max(most, chosen.get(i)[h - 1]);
                leans += leans(chosen.get(i), flues.get(i).own());
            }
            Best now = new Best(most - least + 1, leans, new ArrayList<>(chosen));
            if (best[0] == null || better(now, best[0])) best[0] = now;
            return;
        }
        Flue flue = flues.get(chosen.size());
        for (int[] way : flue.ways()) {
            boolean well = true;
            for (int i = 0; i < chosen.size() && well; i++) {
                well = together(chosen.get(i), flues.get(i).own(), way, flue.own());
            }
            if (!well) continue;
            chosen.add(way);
            choose(flues, chosen, best);
            chosen.remove(chosen.size() - 1);
        }
    }

    private boolean better(Best a, Best b) {
        if (a.breadth() != b.breadth()) return a.breadth() < b.breadth();
        if (a.leans() != b.leans()) return a.leans() < b.leans();
        for (int r = 0; r < h; r++) {
            for (int i = 0; i < a.ways().size(); i++) {
                int ca = a.ways().get(i)[r], cb = b.ways().get(i)[r];
                if (ca != cb) return ca < cb;
            }
        }
        return false;
    }

    /** The same from below: for each row of columns in a course the best ways that lead to it. */
    private Best bestFromBelow(int[] owns, int[] starts) {
        int n = owns.length;
        Map<String, int[][]> layer = new HashMap<>();
        layer.put("", new int[n][h]);
        for (int r = 0; r < h; r++) {
            Map<String, int[][]> next = new HashMap<>();
            for (int[][] ways : layer.values()) spread(ways, r, 0, owns, starts, next);
            layer = next;
        }
        Best best = null;
        for (int[][] ways : layer.values()) {
            Best now = toBest(ways, owns, h - 1);
            if (best == null || better(now, best)) best = now;
        }
        return best;
    }

    private Best toBest(int[][] ways, int[] owns, int top) {
        int least = 99, most = -1, leans = 0;
        for (int i = 0; i < ways.length; i++) {
            least = Math.min(least, ways[i][h - 1]);
            most = Math.max(most, ways[i][h - 1]);
            for (int r = owns[i] + 1; r <= top; r++) if (ways[i][r] != ways[i][r - 1]) leans++;
        }
        return new Best(most - least + 1, leans, List.of(ways));
    }

    private void spread(int[][] ways, int r, int i, int[] owns, int[] starts, Map<String, int[][]> next) {
        if (i == ways.length) {
            int[][] copy = new int[i][];
            StringBuilder key = new StringBuilder();
            for (int k = 0; k < i; k++) {
                copy[k] = ways[k].clone();
                key.append(r < owns[k] ? "-" : "" + ways[k][r]).append(',');
            }
            int[][] known = next.get(key.toString());
            if (known == null) {
                next.put(key.toString(), copy);
                return;
            }
            Best a = toBest(copy, owns, r), b = toBest(known, owns, r);
            if (better(new Best(0, a.leans(), a.ways()), new Best(0, b.leans(), b.ways()))) next.put(key.toString(), copy);
            return;
        }
        if (r < owns[i]) {
            ways[i][r] = -1;
            spread(ways, r, i + 1, owns, starts, next);
            return;
        }
        for (int c = 0; c < w; c++) {
            if ((closed >> c & 1) != 0 || ((keeping >> i & 1) != 0 && plan.get(i)[r] != c)) continue;
            if (barred[r][c] || (r == owns[i] ? c != starts[i] : Math.abs(c - ways[i][r - 1]) > 1)) continue;
            boolean well = true;
            for (int k = 0; k < i && well; k++) {
                if (r < owns[k]) continue;
                well = Math.abs(c - ways[k][r]) > tunes[0];
                if (well && r > owns[k] && r > owns[i]) well = (c < ways[k][r]) == (ways[i][r - 1] < ways[k][r - 1]);
            }
            if (!well) continue;
            ways[i][r] = c;
            spread(ways, r, i + 1, owns, starts, next);
        }
        // what stands above this course is of no way yet: the same for all that are compared
        ways[i][r] = 0;
    }

    private Best bestOfSet(int set) {
        return bestWith(set, -1, -1);
    }

    private Best bestWith(int set, int course, int column) {
        List<int[]> places = new ArrayList<>();
        for (int i = 0; i < hearths.size(); i++) if ((set >> i & 1) != 0) places.add(hearths.get(i));
        if (course >= 0) places.add(new int[] {course, column});
        if (!writtenOut) {
            return bestFromBelow(places.stream().mapToInt(p -> p[0]).toArray(),
                    places.stream().mapToInt(p -> p[1]).toArray());
        }
        List<Flue> flues = new ArrayList<>();
        for (int[] p : places) flues.add(new Flue(p[0], waysFrom(p[0], p[1], 0)));
        return best(flues);
    }

    private boolean isSet(int set) {
        return set > 0 && set < 1 << hearths.size();
    }

    int together(int set, int what) {
        if (!isSet(set) || what < 0 || what > 1) return BAD;
        Best best = bestOfSet(set);
        return best == null ? NONE : what == 0 ? best.breadth() : best.leans();
    }

    int share(int what) {
        if (what < 0 || what > 1) return BAD;
        int most = 0;
        for (int set = 1; set < 1 << hearths.size(); set++) {
            if (Integer.bitCount(set) > Integer.bitCount(most) && bestOfSet(set) != null) most = set;
        }
        return what == 0 ? most : Integer.bitCount(most);
    }

    int more(int set, int course, int what) {
        if ((set != 0 && !isSet(set)) || set == 7 || course < 0 || course > h - 2 || what < 0 || what > 1) return BAD;
        List<Integer> columns = new ArrayList<>();
        for (int c = 0; c < w; c++) if (bestWith(set, course, c) != null) columns.add(c);
        return what == 0 ? columns.size() : columns.isEmpty() ? NONE : columns.get(0);
    }

    // ---- the plan

    int take(int set) {
        if (!isSet(set)) return BAD;
        Best best = bestOfSet(set);
        if (best == null) return STATE;
        int k = 0;
        for (int i = 0; i < hearths.size(); i++) if ((set >> i & 1) != 0) plan.set(i, best.ways().get(k++).clone());
        return 1;
    }

    int way(int i, int r) {
        return !has(i) || r < hearths.get(i)[0] || r >= h ? NO : plan.get(i)[r];
    }

    int turn(int i, int r, int d) {
        if (!has(i) || r <= hearths.get(i)[0] || r >= h || d < -1 || d > 1) return NO;
        int[] way = plan.get(i), steps = new int[h];
        for (int k = hearths.get(i)[0] + 1; k < h; k++) steps[k] = way[k] - way[k - 1];
        int was = steps[r];
        steps[r] = d;
        for (int k = hearths.get(i)[0] + 1; k < h; k++) way[k] = way[k - 1] + steps[k];
        return was;
    }

    private int[] trouble() {
        for (int r = 0; r < h; r++) {
            for (int i = 0; i < hearths.size(); i++) {
                if (r < hearths.get(i)[0]) continue;
                int c = plan.get(i)[r], kind = 9;
                for (int g = i - 1; g >= 0; g--) {
                    int o = hearths.get(g)[0];
                    if (r < o) continue;
                    int gc = plan.get(g)[r];
                    if (c - gc <= tunes[0] && gc - c <= tunes[0]) kind = Math.min(kind, 3);
                    if (r > o && r > hearths.get(i)[0]) {
                        int before = Integer.signum(plan.get(g)[r - 1] - plan.get(i)[r - 1]);
                        if (before * Integer.signum(gc - c) < 0) kind = Math.min(kind, 4);
                    }
                }
                if (c < 0 || c >= w) kind = 1;
                else if (barred[r][c]) kind = 2;
                if (kind != 9) return new int[] {kind, i, r};
            }
        }
        return null;
    }

    int judge(int what) {
        if (what < 0 || what > 2) return BAD;
        int[] t = trouble();
        return t == null ? NONE : t[what];
    }

    private int coldCourses(int i) {
        int n = 0;
        for (int r = hearths.get(i)[0]; r < h; r++) {
            int c = plan.get(i)[r];
            if (c >= 0 && c < w && cold[c]) n++;
        }
        return n;
    }

    /** Tries every set of straight lengths to have a door; a brush comes BRUSH lengths to either side. */
    private int doors(int bends) {
        int lengths = bends + 1, brush = tunes[4], least = 99;
        for (int set = 0; set < 1 << lengths; set++) {
            boolean all = true;
            for (int k = 0; k < lengths && all; k++) {
                boolean swept = k <= brush || lengths - 1 - k <= brush;
                for (int d = 0; d < lengths; d++) swept |= (set >> d & 1) != 0 && Math.abs(d - k) <= brush;
                all = swept;
            }
            if (all) least = Math.min(least, Integer.bitCount(set));
        }
        return least;
    }

    int plan(int i, int what) {
        if (!has(i) || what < 0 || what > 3) return BAD;
        int own = hearths.get(i)[0];
        return switch (what) {
            case 0 -> bends(plan.get(i), own);
            case 1 -> leans(plan.get(i), own);
            case 2 -> coldCourses(i);
            default -> doors(bends(plan.get(i), own));
        };
    }

    int draw(int i, int quarter) {
        if (!has(i) || quarter < 0 || quarter > 3) return NO;
        int top = plan.get(i)[h - 1];
        return tunes[3] * (h - 1 - hearths.get(i)[0]) - tunes[1] * plan(i, 0) - tunes[2] * coldCourses(i)
                + (top >= 0 && top < w ? winds[quarter][top] : 0);
    }

    private boolean smokesWith(int i, int other, int quarter, int pot) {
        int draw = draw(i, quarter) + pot * tunes[3];
        return draw < hearths.get(i)[2] || (other != i && draw < draw(other, quarter) - tunes[5]);
    }

    int smokes(int i, int other, int quarter) {
        if (!has(i) || !has(other) || quarter < 0 || quarter > 3) return BAD;
        return smokesWith(i, other, quarter, 0) ? 1 : 0;
    }

    int mend(int i) {
        if (!has(i)) return BAD;
        for (int pot = 0; pot <= 40; pot++) {
            boolean smokes = false;
            for (int q = 0; q < 4; q++) for (int o = 0; o < hearths.size(); o++) smokes |= smokesWith(i, o, q, pot);
            if (!smokes) return pot;
        }
        return NONE;
    }

    int moved(int columns, int what) {
        if (columns < 0 || columns > 1023 || what < 0 || what > 1) return BAD;
        if (trouble() != null) return STATE;
        if (!writtenOut) return movedFromBelow(columns, what);
        int least = -1;
        for (int set = 0; set < 1 << hearths.size(); set++) {
            if (least >= 0 && Integer.bitCount(set) >= Integer.bitCount(least)) continue;
            List<Flue> flues = new ArrayList<>();
            for (int i = 0; i < hearths.size(); i++) {
                int own = hearths.get(i)[0];
                List<int[]> ways = waysFrom(own, hearths.get(i)[1], columns);
                int[] mine = Arrays.copyOfRange(plan.get(i), own, h);
                if ((set >> i & 1) == 0) ways.removeIf(way -> !Arrays.equals(Arrays.copyOfRange(way, own, h), mine));
                flues.add(new Flue(own, ways));
            }
            if (best(flues) != null) least = set;
        }
        return told(least, what);
    }

    private int movedFromBelow(int columns, int what) {
        int[] owns = hearths.stream().mapToInt(p -> p[0]).toArray(), starts = hearths.stream().mapToInt(p -> p[1]).toArray();
        int least = -1;
        for (int set = 0; set < 1 << hearths.size(); set++) {
            if (least >= 0 && Integer.bitCount(set) >= Integer.bitCount(least)) continue;
            closed = columns;
            keeping = ~set;
            if (bestFromBelow(owns, starts) != null) least = set;
            closed = 0;
            keeping = 0;
        }
        return told(least, what);
    }

    private static int told(int set, int what) {
        return set < 0 ? NONE : what == 0 ? Integer.bitCount(set) : set;
    }

    // ---- marks, kinds, images

    int mark(int course, int column) {
        if (course < 0 || course >= h || column < 0 || column >= w) return BAD;
        if (marks.size() == 6) return FULL;
        marks.add(new int[] {course, column});
        return marks.size();
    }

    long guess(int i) {
        if (!has(i)) return BAD;
        long n = 0;
        for (int[] way : ways(i)) {
            boolean fits = true;
            for (int[] mark : marks) fits &= mark[0] < hearths.get(i)[0] || way[mark[0]] == mark[1];
            if (fits) n++;
        }
        return n;
    }

    int rate(int kind, int i) {
        if (kind < 0 || kind > 5 || !has(i)) return NO;
        int up = h - 1 - hearths.get(i)[0];
        int straight = up - plan(i, 1), lean = up + plan(i, 0);
        trace += new long[] {1, 11, 101, 1101, 10011, 100001}[kind];
        return new int[] {up, straight, lean, 2 * lean, straight + hearths.size(), up - hearths.get(i)[2]}[kind];
    }

    int keep(int image) {
        if (image < 0 || image > 1) return BAD;
        images[image] = new Object[] {copy(plan), copy(marks)};
        return marks.size();
    }

    @SuppressWarnings("unchecked")
    int back(int image) {
        if (image < 0 || image > 1) return BAD;
        if (images[image] == null) return STATE;
        plan = copy((List<int[]>) images[image][0]);
        marks = copy((List<int[]>) images[image][1]);
        return marks.size();
    }

    private static List<int[]> copy(List<int[]> rows) {
        List<int[]> copy = new ArrayList<>();
        for (int[] row : rows) copy.add(row.clone());
        return copy;
    }

    int count(int what) {
        int bars = 0;
        for (int r = 0; r < h; r++) for (int c = 0; c < w; c++) if (barred[r][c]) bars++;
        return what < 0 || what > 5 ? BAD : new int[] {w, h, hearths.size(), marks.size(), text.length(), bars}[what];
    }

    long trace() {
        return trace;
    }
}
