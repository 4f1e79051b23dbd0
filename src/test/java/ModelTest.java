import java.util.ArrayDeque;
import java.util.ArrayList;
import java.util.Arrays;
import java.util.Deque;
import java.util.List;
import java.util.Random;
import java.util.TreeSet;
import java.util.regex.Matcher;
import java.util.regex.Pattern;

/**
 * Runs of calls from a fixed seed, compared with a plain model of the document.
 * The model keeps moves alone, and finds out where sheets are by carrying the
 * moves out anew on the elementary sequences between all ends of ranges.
 */
public final class ModelTest {
    private static final int TOP = 2000000000;
    private static final int NONE = -1, UNKNOWN = -2, OUTSIDE = -3, NOT = -4, FULL = -5;
    private static final int CALLS = 512;

    public static void main(String[] args) {
        int runs = args.length > 0 ? Integer.parseInt(args[0]) : 1500;
        int first = args.length > 1 ? Integer.parseInt(args[1]) : 1;
        for (int seed = first; seed < first + runs; seed++) {
            if (!new Run(seed).agrees()) {
                System.exit(1);
            }
        }
        System.out.println(runs + " runs agree with the model");
    }

    record Range(int mark, int a, int b) {
        boolean has(long sheet) {
            return a <= sheet && sheet <= b;
        }

        boolean meets(Range o) {
            return a <= o.b && o.a <= b;
        }
    }

    record Move(int day, int box, int a, int b) { }

    record Past(List<Range> series, List<Integer> rooms, List<Move> moves, int day) { }

    /** A sequence of sheets that are all in one box (or none) and have one home (or none). */
    record Cell(int a, int b, int box, int home) {
        long size() {
            return (long) b - a + 1;
        }
    }

    static final class Model {
        List<Range> series = new ArrayList<>();
        List<Integer> rooms = new ArrayList<>(List.of(0, 0, 0, 0, 0, 0, 0, 0));
        List<Move> moves = new ArrayList<>();
        int day = 0;
        List<Range> rows = new ArrayList<>();
        String paper = "";
        String text = "";
        Deque<Past> past = new ArrayDeque<>();
        private List<Cell> cells = null;

        Past now() {
            return new Past(new ArrayList<>(series), new ArrayList<>(rooms), new ArrayList<>(moves), day);
        }

        void become(Past p) {
            series = new ArrayList<>(p.series);
            rooms = new ArrayList<>(p.rooms);
            moves = new ArrayList<>(p.moves);
            day = p.day;
            cells = null;
        }

        int settle(Past before, int result) {
            cells = null;
            if (result < 0) {
                become(before);
                return result;
            }
            past.addLast(before);
            if (past.size() > 8) {
                past.removeFirst();
            }
            return result;
        }

        static boolean sheet(int s) {
            return s >= 1 && s <= TOP;
        }

        static boolean range(int a, int b) {
            return sheet(a) && b >= a && b <= TOP;
        }

        static boolean box(int x) {
            return x >= 0 && x <= 7;
        }

        // The home by its definition: in the range, and in that of no child.
        int homeOf(int s) {
            for (int i = 0; i < series.size(); i++) {
                boolean own = series.get(i).has(s);
                for (Range child : series) {
                    own = own && !(child.mark == i && child.has(s));
                }
                if (own) {
                    return i;
                }
            }
            return NONE;
        }

        int placeAfter(int s, int upToDay) {
            int place = NONE;
            for (Move m : moves) {
                if (m.day <= upToDay && m.a <= s && s <= m.b) {
                    place = m.box;
                }
            }
            return place;
        }

        List<Cell> cells() {
            if (cells != null) {
                return cells;
            }
            TreeSet<Integer> starts = new TreeSet<>();
            starts.add(1);
            for (Range r : series) {
                starts.add(r.a);
                starts.add(r.b + 1);
            }
            for (Range r : rows) {
                starts.add(r.a);
                starts.add(r.b + 1);
            }
            for (Move m : moves) {
                starts.add(m.a);
                starts.add(m.b + 1);
            }
            starts.add(TOP + 1);
            List<Integer> list = new ArrayList<>(starts);
            cells = new ArrayList<>();
            for (int i = 0; i + 1 < list.size(); i++) {
                int a = list.get(i);
                cells.add(new Cell(a, list.get(i + 1) - 1, placeAfter(a, Integer.MAX_VALUE), homeOf(a)));
            }
            return cells;
        }

        List<Range> pieces() {
            List<Range> list = new ArrayList<>();
            for (Cell c : cells()) {
                Range last = list.isEmpty() ? null : list.get(list.size() - 1);
                if (last != null && last.mark == c.box && last.b + 1 == c.a) {
                    list.set(list.size() - 1, new Range(c.box, last.a, c.b));
                } else if (c.box != NONE) {
                    list.add(new Range(c.box, c.a, c.b));
                }
            }
            return list;
        }

        // cells end at the ends of series, so a cell is within a series or apart from it
        List<Range> gaps(int s) {
            Range whole = series.get(s);
            List<Range> list = new ArrayList<>();
            for (Cell c : cells()) {
                if (whole.has(c.a) && c.box == NONE) {
                    Range last = list.isEmpty() ? null : list.get(list.size() - 1);
                    if (last != null && last.b + 1 == c.a) {
                        list.set(list.size() - 1, new Range(0, last.a, c.b));
                    } else {
                        list.add(new Range(0, c.a, c.b));
                    }
                }
            }
            return list;
        }

        long load(int box) {
            return cells().stream().filter(c -> c.box == box).mapToLong(Cell::size).sum();
        }

        List<Range> planOf(int s) {
            long[] free = new long[8];
            for (int x = 0; x < 8; x++) {
                free[x] = rooms.get(x) - load(x);
            }
            List<Range> list = new ArrayList<>();
            Deque<Range> open = new ArrayDeque<>(gaps(s));
            while (!open.isEmpty()) {
                Range g = open.removeFirst();
                long size = (long) g.b - g.a + 1;
                int chosen = NONE;
                for (int x = 7; x >= 0; x--) {
                    if (free[x] >= size && (chosen == NONE || free[x] <= free[chosen])) {
                        chosen = x;
                    }
                }
                if (chosen != NONE) {
                    list.add(new Range(chosen, g.a, g.b));
                    free[chosen] -= size;
                    continue;
                }
                long most = Arrays.stream(free).max().getAsLong();
                if (most == 0) {
                    continue;
                }
                for (int x = 7; x >= 0; x--) {
                    if (free[x] == most) {
                        chosen = x;
                    }
                }
                list.add(new Range(chosen, g.a, (int) (g.a + most - 1)));
                free[chosen] = 0;
                open.addFirst(new Range(0, (int) (g.a + most), g.b));
            }
            return list;
        }

        int addSeries(int parent, int a, int b) {
            if (parent != NONE && (parent < 0 || parent >= series.size())) {
                return UNKNOWN;
            }
            if (!range(a, b)) {
                return OUTSIDE;
            }
            Range r = new Range(parent, a, b);
            if (parent != NONE && (series.get(parent).a > a || series.get(parent).b < b)) {
                return NOT;
            }
            for (Range other : series) {
                if (other.mark == parent && other.meets(r)) {
                    return NOT;
                }
            }
            if (series.size() == 10) {
                return FULL;
            }
            series.add(r);
            return series.size() - 1;
        }

        int setRoom(int x, int r) {
            if (!box(x)) {
                return UNKNOWN;
            }
            if (r < 0 || r > TOP) {
                return OUTSIDE;
            }
            return load(x) > r ? NOT : rooms.set(x, r);
        }

        // counts sheets from a to b with a filter on their box: in it (true), or in any box (x = NONE)
        long within(int x, int a, int b) {
            long sum = 0;
            for (Cell c : cells()) {
                if (c.box != NONE && (x == NONE || c.box == x)) {
                    sum += Math.max(0, Math.min((long) c.b, b) - Math.max((long) c.a, a) + 1);
                }
            }
            return sum;
        }

        // makes the move; FULL if a limit is exceeded after it (the caller then goes back)
        int doMove(int x, int a, int b, long result) {
            if (moves.size() == 100) {
                return FULL;
            }
            moves.add(new Move(day, x, a, b));
            cells = null;
            if (pieces().size() > 40 || (x != NONE && load(x) > rooms.get(x))) {
                return FULL;
            }
            return (int) result;
        }

        int layInto(int x, int a, int b) {
            if (!box(x)) {
                return UNKNOWN;
            }
            if (!range(a, b)) {
                return OUTSIDE;
            }
            return doMove(x, a, b, (long) b - a + 1 - within(x, a, b));
        }

        int takeOut(int a, int b) {
            return range(a, b) ? doMove(NONE, a, b, within(NONE, a, b)) : OUTSIDE;
        }

        int shiftAll(int from, int to) {
            if (!box(from) || !box(to) || from == to) {
                return UNKNOWN;
            }
            int n = 0;
            for (Range p : pieces()) {
                if (p.mark == from) {
                    if (doMove(to, p.a, p.b, 0) == FULL) {
                        return FULL;
                    }
                    n++;
                }
            }
            return n;
        }

        int stowAll(int s) {
            if (s < 0 || s >= series.size()) {
                return UNKNOWN;
            }
            List<Range> plan = planOf(s);
            for (Range l : plan) {
                if (doMove(l.mark, l.a, l.b, 0) == FULL) {
                    return FULL;
                }
            }
            return plan.size();
        }

        int letPass(int n) {
            if (n < 1 || n > 999) {
                return OUTSIDE;
            }
            day += n;
            return day;
        }

        int addRow(int x, int a, int b) {
            if (!box(x)) {
                return UNKNOWN;
            }
            if (!range(a, b)) {
                return OUTSIDE;
            }
            if (rows.size() == 12) {
                return FULL;
            }
            rows.add(new Range(x, a, b));
            cells = null;
            return rows.size() - 1;
        }

        String labelOf(int x) {
            List<String> parts = new ArrayList<>();
            for (int i = 0; i <= series.size(); i++) {
                int home = i == series.size() ? NONE : i;
                List<Range> runs = new ArrayList<>();
                for (Cell c : cells()) {
                    if (c.box == x && c.home == home) {
                        Range last = runs.isEmpty() ? null : runs.get(runs.size() - 1);
                        if (last != null && last.b + 1 == c.a) {
                            runs.set(runs.size() - 1, new Range(0, last.a, c.b));
                        } else {
                            runs.add(new Range(0, c.a, c.b));
                        }
                    }
                }
                List<String> words = new ArrayList<>();
                for (Range r : runs) {
                    words.add(r.a == r.b ? "" + r.a : r.a + "-" + r.b);
                }
                if (!words.isEmpty()) {
                    parts.add((home == NONE ? "x" : "" + home) + ":" + String.join(",", words));
                }
            }
            return String.join(";", parts);
        }

        boolean clash(int i, int j) {
            return rows.get(i).mark != rows.get(j).mark && rows.get(i).meets(rows.get(j));
        }

        // ---- the text

        private static final Pattern TOKEN = Pattern.compile("[a-z]+|[0-9]+|[^ ]", Pattern.DOTALL);

        static String kinds(String word) {
            return switch (word) {
                case "all" -> "";
                case "series" -> "PAB";
                case "top", "take" -> "AB";
                case "box" -> "XR";
                case "lay", "row" -> "XAB";
                case "pass" -> "N";
                default -> null;
            };
        }

        static boolean allowed(String token, char kind, long before) {
            if (!token.matches("[0-9]{1,10}")) {
                return false;
            }
            long v = Long.parseLong(token);
            return switch (kind) {
                case 'P' -> v <= 9;
                case 'X' -> v <= 7;
                case 'A' -> v >= 1 && v <= TOP;
                case 'B' -> v >= before && v <= TOP;
                case 'R' -> v <= TOP;
                default -> v >= 1 && v <= 999;
            };
        }

        // fills the commands, each as word and numbers; answers the fault
        int parse(List<List<String>> commands) {
            Matcher m = TOKEN.matcher(text);
            List<String> command = null;
            String open = "";
            while (m.find()) {
                String t = m.group();
                if (command == null) {
                    if (kinds(t) == null) {
                        return m.start();
                    }
                    command = new ArrayList<>(List.of(t));
                    open = kinds(t);
                } else if (!open.isEmpty()) {
                    long before = open.charAt(0) == 'B' ? Long.parseLong(command.get(command.size() - 1)) : 0;
                    if (!allowed(t, open.charAt(0), before)) {
                        return m.start();
                    }
                    command.add(t);
                    open = open.substring(1);
                } else {
                    commands.add(command);
                    if (!t.equals(";") || commands.size() == 24) {
                        return m.start();
                    }
                    command = null;
                }
            }
            if (command == null || !open.isEmpty()) {
                return text.length();
            }
            commands.add(command);
            return NONE;
        }

        int tellAll() {
            List<List<String>> commands = new ArrayList<>();
            if (parse(commands) != NONE) {
                return NOT;
            }
            for (List<String> c : commands) {
                int[] v = c.stream().skip(1).mapToInt(Integer::parseInt).toArray();
                Past before = now();
                int result = switch (c.get(0)) {
                    case "series" -> addSeries(v[0], v[1], v[2]);
                    case "top" -> addSeries(NONE, v[0], v[1]);
                    case "box" -> setRoom(v[0], v[1]);
                    case "lay" -> layInto(v[0], v[1], v[2]);
                    case "take" -> takeOut(v[0], v[1]);
                    case "row" -> addRow(v[0], v[1], v[2]);
                    case "pass" -> letPass(v[0]);
                    default -> anew();
                };
                cells = null;
                if (result < 0) {
                    become(before);
                }
            }
            text = "";
            past.clear();
            return commands.size();
        }

        int anew() {
            Model fresh = new Model();
            become(fresh.now());
            rows = new ArrayList<>();
            paper = "";
            return 0;
        }

        // ---- the face, by name

        int answer(String name, int[] v) {
            Past before = now();
            switch (name) {
                case "type":
                    if (v[0] < 0 || v[0] > 255) {
                        return OUTSIDE;
                    }
                    if (text.length() == 200) {
                        return FULL;
                    }
                    text += (char) v[0];
                    return text.length();
                case "erase":
                    int length = text.length();
                    text = "";
                    return length;
                case "fault":
                    return parse(new ArrayList<>());
                case "tell":
                    return tellAll();
                case "series":
                    return settle(before, addSeries(v[0], v[1], v[2]));
                case "room":
                    return settle(before, setRoom(v[0], v[1]));
                case "lay":
                    return settle(before, layInto(v[0], v[1], v[2]));
                case "take":
                    return settle(before, takeOut(v[0], v[1]));
                case "shift":
                    return settle(before, shiftAll(v[0], v[1]));
                case "stow":
                    return settle(before, stowAll(v[0]));
                case "pass":
                    return settle(before, letPass(v[0]));
                case "undo":
                    if (past.isEmpty()) {
                        return NOT;
                    }
                    become(past.removeLast());
                    return past.size();
                case "row":
                    return addRow(v[0], v[1], v[2]);
                case "clear":
                    int n = rows.size();
                    rows = new ArrayList<>();
                    cells = null;
                    return n;
                case "label":
                    if (!box(v[0])) {
                        return UNKNOWN;
                    }
                    String label = labelOf(v[0]);
                    if (label.length() > 200) {
                        return FULL;
                    }
                    paper = label;
                    return label.length();
                default:
                    return (int) look(name, v);
            }
        }

        private static long pick(int what, long... values) {
            return what < 0 || what >= values.length ? OUTSIDE : values[what];
        }

        private long look(String name, int[] v) {
            switch (name) {
                case "of":
                    return ofSeries(v[0], v[1]);
                case "box":
                    return ofBox(v[0], v[1]);
                case "piece":
                    List<Range> pieces = pieces();
                    if (v[0] < 0 || v[0] >= pieces.size()) {
                        return UNKNOWN;
                    }
                    Range p = pieces.get(v[0]);
                    return pick(v[1], p.a, p.b, p.mark);
                case "gap":
                    if (v[0] < 0 || v[0] >= series.size() || v[1] < 0 || v[1] >= gaps(v[0]).size()) {
                        return UNKNOWN;
                    }
                    Range g = gaps(v[0]).get(v[1]);
                    return pick(v[2], g.a, g.b);
                case "home":
                    return sheet(v[0]) ? homeOf(v[0]) : OUTSIDE;
                case "where":
                    return sheet(v[0]) ? placeAfter(v[0], Integer.MAX_VALUE) : OUTSIDE;
                case "was":
                    return sheet(v[0]) && v[1] >= 0 ? placeAfter(v[0], v[1]) : OUTSIDE;
                case "move":
                    if (v[0] < 0 || v[0] >= moves.size()) {
                        return UNKNOWN;
                    }
                    Move m = moves.get(v[0]);
                    return pick(v[1], m.day, m.a, m.b, m.box);
                case "trail":
                    return trailOf(v[0], v[1]);
                case "listed":
                    return ofRow(v[0], v[1]);
                case "unlisted":
                    return box(v[0]) ? unlistedIn(v[0]) : UNKNOWN;
                case "paper":
                    return v[0] >= 0 && v[0] < paper.length() ? paper.charAt(v[0]) : NONE;
                case "plan":
                    return ofPlan(v[0], v[1], v[2]);
                case "left":
                    return v[0] >= 0 && v[0] < series.size() ? leftIn(v[0]) : UNKNOWN;
                case "count":
                    return counts(v[0]);
                default:
                    throw new IllegalStateException(name);
            }
        }

        private long ofSeries(int s, int what) {
            if (s < 0 || s >= series.size()) {
                return UNKNOWN;
            }
            Range r = series.get(s);
            long own = 0;
            long out = 0;
            int children = 0;
            int boxes = 0;
            for (Cell c : cells()) {
                own += c.home == s ? c.size() : 0;
                out += r.has(c.a) && c.box == NONE ? c.size() : 0;
                boxes |= r.has(c.a) && c.box != NONE ? 1 << c.box : 0;
            }
            for (int i = 0; i < series.size(); i++) {
                children |= series.get(i).mark == s ? 1 << i : 0;
            }
            return pick(what, r.mark, r.a, r.b, own, children, boxes, out, gaps(s).size());
        }

        private long ofBox(int x, int what) {
            if (!box(x)) {
                return UNKNOWN;
            }
            int homes = 0;
            int low = NONE;
            int high = NONE;
            for (Cell c : cells()) {
                if (c.box == x) {
                    homes |= c.home == NONE ? 0 : 1 << c.home;
                    low = low == NONE ? c.a : low;
                    high = c.b;
                }
            }
            return pick(what, rooms.get(x), load(x), pieces().stream().filter(p -> p.mark == x).count(), homes, low, high);
        }

        private long trailOf(int s, int k) {
            if (!sheet(s) || k < NONE) {
                return OUTSIDE;
            }
            List<Integer> found = new ArrayList<>();
            int place = NONE;
            for (int i = 0; i < moves.size(); i++) {
                Move m = moves.get(i);
                int after = m.a <= s && s <= m.b ? m.box : place;
                if (after != place) {
                    found.add(i);
                }
                place = after;
            }
            return k == NONE ? found.size() : k < found.size() ? found.get(k) : NONE;
        }

        private long ofRow(int k, int what) {
            if (k < 0 || k >= rows.size()) {
                return UNKNOWN;
            }
            Range r = rows.get(k);
            int clash = NONE;
            for (int i = rows.size() - 1; i >= 0; i--) {
                clash = clash(i, k) ? i : clash;
            }
            long in = within(r.mark, r.a, r.b);
            return pick(what, r.mark, r.a, r.b, in, within(NONE, r.a, r.b) - in, clash);
        }

        private long unlistedIn(int x) {
            long sum = 0;
            for (Cell c : cells()) {
                boolean listed = rows.stream().anyMatch(r -> r.mark == x && r.has(c.a));
                sum += c.box == x && !listed ? c.size() : 0;
            }
            return sum;
        }

        private long ofPlan(int s, int k, int what) {
            if (s < 0 || s >= series.size()) {
                return UNKNOWN;
            }
            if (k < NONE || k != NONE && (what < 0 || what > 2)) {
                return OUTSIDE;
            }
            List<Range> plan = planOf(s);
            if (k == NONE) {
                return plan.size();
            }
            return k >= plan.size() ? NONE : pick(what, plan.get(k).a, plan.get(k).b, plan.get(k).mark);
        }

        private long leftIn(int s) {
            long out = ofSeries(s, 6);
            for (Range l : planOf(s)) {
                out -= (long) l.b - l.a + 1;
            }
            return out;
        }

        private long counts(int what) {
            long boxed = 0;
            long homeless = 0;
            long filled = 0;
            long clashes = 0;
            for (Cell c : cells()) {
                boxed += c.box != NONE ? c.size() : 0;
                homeless += c.box != NONE && c.home == NONE ? c.size() : 0;
            }
            for (int x = 0; x < 8; x++) {
                filled += load(x) > 0 ? 1 : 0;
            }
            for (int i = 0; i < rows.size(); i++) {
                for (int j = i + 1; j < rows.size(); j++) {
                    clashes += clash(i, j) ? 1 : 0;
                }
            }
            return pick(what, series.size(), pieces().size(), moves.size(), day, rows.size(), boxed, homeless, filled,
                    clashes, paper.length(), past.size(), text.length());
        }
    }

    /** One run of calls on a new object. */
    static final class Run {
        private final int seed;
        private final Random random;
        private final BoxedPapers real = new BoxedPapers();
        private final Model model = new Model();
        private final List<String> done = new ArrayList<>();
        private final int offset;
        private final int span;
        private final int style;
        private boolean good = true;

        Run(int seed) {
            this.seed = seed;
            random = new Random(seed);
            style = seed % 6;
            int[] spans = {20, 60, 130, 400, 100000, TOP};
            span = spans[random.nextInt(spans.length)];
            offset = random.nextInt(3) == 0 ? TOP - span : 0;
        }

        boolean agrees() {
            if (style != 5) {
                prepare();
            }
            while (good && done.size() < CALLS) {
                if (random.nextInt(style == 0 ? 12 : 300) == 0) {
                    text();
                } else {
                    one();
                }
            }
            return good;
        }

        /** Series and rooms first; in some runs many short pieces, too, so that the limits are near. */
        private void prepare() {
            int tops = 1 + random.nextInt(3);
            for (int k = 0; k < tops; k++) {
                int width = span / tops;
                int a = offset + 1 + k * width + random.nextInt(Math.max(1, width / 4));
                call("series", NONE, a, Math.max(a, offset + (k + 1) * width - random.nextInt(2)));
            }
            for (int k = random.nextInt(style == 1 ? 40 : 6); k > 0; k--) {
                seriesWithin();
            }
            for (int k = 0; k < 8; k++) {
                if (random.nextInt(3) != 0) {
                    call("room", k, style == 3 ? TOP : capacity());
                }
            }
            for (int k = style == 3 ? 44 : 0; k > 0; k--) {
                int a = offset + 1 + random.nextInt(span);
                call("lay", box(), a, Math.min(offset + span, a + random.nextInt(2)));
            }
        }

        private void seriesWithin() {
            int s = random.nextInt(model.series.size());
            Range in = model.series.get(s);
            int a = in.a + random.nextInt(in.b - in.a + 1);
            call("series", s, a, Math.min(in.b, end(a)));
        }

        private int any(int... values) {
            return values[random.nextInt(values.length)];
        }

        private int wild() {
            return any(Integer.MIN_VALUE, -TOP, -101, -100, -6, -5, -4, -3, -2, -1, 0, 1, 7, 8, 9, 10, 11, 12, 13, 24, 40,
                    41, 100, 101, 199, 200, 201, 255, 256, 999, 1000, TOP, TOP + 1, Integer.MAX_VALUE);
        }

        private int rarelyWild(int value) {
            return random.nextInt(40) == 0 ? wild() : value;
        }

        private int sheet() {
            return rarelyWild(offset + 1 + random.nextInt(span));
        }

        private int end(int a) {
            int longest = random.nextInt(3) == 0 ? span : random.nextInt(2) == 0 ? 3 : Math.max(1, span / 10);
            long b = (long) a + random.nextInt(longest);
            return rarelyWild((int) Math.min(b, (long) offset + span));
        }

        private int box() {
            return rarelyWild(random.nextInt(style == 1 ? 2 : 8));
        }

        private int seriesNumber() {
            return rarelyWild(random.nextInt(Math.max(1, model.series.size())));
        }

        private int capacity() {
            return rarelyWild(random.nextInt(3) == 0 ? any(0, 1, TOP, span, span / 8) : random.nextInt(span) + 1);
        }

        private int what(int most) {
            return rarelyWild(random.nextInt(most));
        }

        private int index(int size) {
            return rarelyWild(random.nextInt(4) == 0 ? size : random.nextInt(size + 1));
        }

        private void one() {
            int a = sheet();
            switch (random.nextInt(style == 2 ? 40 : 56)) {
                case 0, 1:
                    if (model.series.isEmpty() || random.nextInt(3) == 0) {
                        call("series", random.nextInt(2) == 0 ? NONE : seriesNumber(), a, end(a));
                    } else {
                        seriesWithin();
                    }
                    break;
                case 2, 3:
                    call("room", box(), capacity());
                    break;
                case 4, 5, 6, 7, 8, 9, 10, 11, 12:
                    call("lay", box(), a, end(a));
                    break;
                case 13, 14:
                    call("take", a, end(a));
                    break;
                case 15:
                    call("shift", box(), box());
                    break;
                case 16:
                    call("stow", seriesNumber());
                    break;
                case 17:
                    call("pass", rarelyWild(1 + random.nextInt(5)));
                    break;
                case 18, 19:
                    for (int n = random.nextInt(12) == 0 ? random.nextInt(11) : random.nextInt(2); n >= 0; n--) {
                        call("undo");
                    }
                    break;
                case 20, 21:
                    call("row", box(), a, end(a));
                    break;
                case 22:
                    if (random.nextInt(5) == 0) {
                        call("clear");
                    }
                    break;
                case 23, 24:
                    call("label", box());
                    readPaper();
                    break;
                default:
                    ask(a);
            }
        }

        private void readPaper() {
            boolean whole = random.nextInt(10) == 0;
            for (int i = 0; i <= model.paper.length(); i++) {
                if (whole || random.nextInt(20) == 0) {
                    call("paper", i);
                }
            }
            call("paper", wild());
        }

        private void ask(int a) {
            int s = seriesNumber();
            boolean known = s >= 0 && s < model.series.size();
            switch (random.nextInt(17)) {
                case 0, 1:
                    call("of", s, what(8));
                    break;
                case 2, 3:
                    call("box", box(), what(6));
                    break;
                case 4:
                    call("piece", index(model.pieces().size()), what(3));
                    break;
                case 5:
                    call("gap", s, index(known ? model.gaps(s).size() : 1), what(2));
                    break;
                case 6:
                    call("home", a);
                    break;
                case 7:
                    call("where", a);
                    break;
                case 8:
                    call("was", a, index(model.day));
                    break;
                case 9:
                    call("move", index(model.moves.size()), what(4));
                    break;
                case 10:
                    call("trail", a, rarelyWild(random.nextInt(5) - 1));
                    break;
                case 11, 12:
                    call("listed", index(model.rows.size()), what(6));
                    break;
                case 13:
                    call("unlisted", box());
                    break;
                case 14:
                    call("plan", s, rarelyWild(random.nextInt(3) == 0 ? NONE : index(known ? model.planOf(s).size() : 1)),
                            what(3));
                    break;
                case 15:
                    call("left", s);
                    break;
                default:
                    call("count", what(12));
            }
        }

        private String blanks(int least) {
            return " ".repeat(least + (random.nextInt(6) == 0 ? random.nextInt(4) : 0));
        }

        private String number(int value) {
            String zeros = random.nextInt(30) == 0 ? "0".repeat(random.nextInt(10)) : "";
            return zeros + Math.abs((long) value);
        }

        private String command() {
            int a = sheet();
            String pair = number(a) + blanks(1) + number(end(a));
            switch (random.nextInt(16)) {
                case 0:
                    return random.nextInt(6) == 0 ? "all" : "pass" + blanks(1) + "1";
                case 1, 2:
                    return "series" + blanks(1) + number(seriesNumber()) + blanks(1) + pair;
                case 3, 4:
                    return "top" + blanks(1) + pair;
                case 5, 6, 7:
                    return "box" + blanks(random.nextInt(2)) + number(box()) + blanks(1) + number(capacity());
                case 8, 9, 10, 11:
                    return "lay" + blanks(random.nextInt(2)) + number(box()) + blanks(1) + pair;
                case 12, 13:
                    return "take" + blanks(random.nextInt(2)) + pair;
                case 14:
                    return "row" + blanks(1) + number(box()) + blanks(1) + pair;
                default:
                    return "pass" + blanks(random.nextInt(2)) + number(rarelyWild(1 + random.nextInt(999)));
            }
        }

        private void text() {
            StringBuilder t = new StringBuilder();
            int most = random.nextInt(5) == 0 ? 26 : 4;
            boolean shortOnes = random.nextInt(6) == 0;
            for (int n = random.nextInt(most); n >= 0; n--) {
                t.append(blanks(0)).append(shortOnes ? random.nextInt(9) != 0 ? "pass1" : "all" : command()).append(blanks(0));
                t.append(n > 0 ? ";" : "");
            }
            if (random.nextInt(3) == 0 && t.length() > 0) {
                int at = random.nextInt(t.length());
                switch (random.nextInt(4)) {
                    case 0 -> t.setLength(at);
                    case 1 -> t.deleteCharAt(at);
                    case 2 -> t.setCharAt(at, (char) any(0, 31, 32, 33, 47, '0', '9', ':', ';', '`', 'a', 'z', '{', 'A', 255));
                    default -> t.insert(at, (char) any(32, 32, '0', '7', ';', 'a', 'z', '-', 160));
                }
            }
            for (int i = 0; i < t.length(); i++) {
                call("type", random.nextInt(2000) == 0 ? wild() : t.charAt(i));
            }
            call("fault");
            call("tell");
            if (random.nextInt(10) != 0) {
                call("erase");
            }
        }

        private void call(String name, int... v) {
            if (!good || done.size() >= CALLS) {
                return;
            }
            Call call = new Call(name, v);
            int want = model.answer(name, v);
            int got = call.on(real);
            done.add(call + " = " + got);
            if (got != want) {
                good = false;
                System.out.println("seed " + seed + ", due at the end is " + want + ":\n" + String.join("; ", done));
            }
        }
    }
}
