/**
 * An archive of numbered sheets that are kept in boxes. What each method
 * promises stands in the document; the comments here only say why the code is
 * as it is.
 *
 * All rows are made in the constructors and used again: no call makes an object.
 */
public final class BoxedPapers {
    public static final int NONE = -1, UNKNOWN = -2, OUTSIDE = -3, NOT = -4, FULL = -5;

    private static final int LAST_SHEET = 2000000000;
    private static final int BOXES = 8;
    private static final int MOST_SERIES = 10;
    private static final int MOST_PIECES = 40;
    private static final int MOST_MOVES = 100;
    private static final int MOST_ROWS = 12;
    private static final int MOST_SIGNS = 200;
    private static final int MOST_BYTES = 200;
    private static final int MOST_COMMANDS = 24;
    private static final int MOST_NUMBERS = 3;
    private static final int MOST_DIGITS = 10;
    private static final int MOST_DAYS = 999;
    private static final int MOST_UNDOS = 8;

    /** A range that comes into the middle of a piece adds two pieces before the limit is looked at. */
    private static final int PIECES_ON_TRIAL = MOST_PIECES + 2;
    /** A gap before each piece, and one behind the last. */
    private static final int MOST_GAPS = MOST_PIECES + 1;
    /** Every laying ends a gap or fills a box. */
    private static final int MOST_LAYINGS = MOST_GAPS + BOXES;

    /** Stands for every mark of a range; no series and no box has this number. */
    private static final int ANY = -100;

    private static final int ALL = 0, SERIES = 1, TOP = 2, BOX = 3, LAY = 4, TAKE = 5, ROW = 6, PASS = 7;
    private static final int VERBS = 8;

    private final Archive archive;
    private final History history;
    private final Planner planner;
    private final Ranges rows;
    private final Text text;
    private final Page page;
    private final Page draft;

    public BoxedPapers() {
        archive = new Archive();
        history = new History();
        planner = new Planner();
        rows = new Ranges(MOST_ROWS);
        text = new Text();
        page = new Page();
        draft = new Page();
    }

    // ---- text

    public int type(int letter) {
        if (letter < 0 || letter > 255) {
            return OUTSIDE;
        }
        return text.append(letter) ? text.length() : FULL;
    }

    public int erase() {
        int before = text.length();
        text.wipe();
        return before;
    }

    public int fault() {
        return text.read();
    }

    public int tell() {
        if (text.read() != NONE) {
            return NOT;
        }
        int told = text.commandCount();
        for (int c = 0; c < told; c++) {
            carryOut(c);
        }
        text.wipe();
        history.forget();
        return told;
    }

    private void carryOut(int c) {
        int x = text.numberOf(c, 0);
        int y = text.numberOf(c, 1);
        int z = text.numberOf(c, 2);
        switch (text.verbOf(c)) {
            case ALL:
                beginAnew();
                break;
            case SERIES:
                archive.addSeries(x, y, z);
                break;
            case TOP:
                archive.addSeries(NONE, x, y);
                break;
            case BOX:
                archive.setRoom(x, y);
                break;
            case LAY:
                archive.layInto(x, y, z);
                break;
            case TAKE:
                archive.takeOut(x, y);
                break;
            case ROW:
                addRow(x, y, z);
                break;
            case PASS:
                archive.letPass(x);
                break;
            default:
                break;
        }
    }

    private void beginAnew() {
        archive.empty();
        rows.cutTo(0);
        page.wipe();
    }

    // ---- changes

    public int series(int parent, int a, int b) {
        history.remember(archive);
        return settle(archive.addSeries(parent, a, b));
    }

    public int room(int box, int r) {
        history.remember(archive);
        return settle(archive.setRoom(box, r));
    }

    public int lay(int box, int a, int b) {
        history.remember(archive);
        return settle(archive.layInto(box, a, b));
    }

    public int take(int a, int b) {
        history.remember(archive);
        return settle(archive.takeOut(a, b));
    }

    public int shift(int from, int to) {
        history.remember(archive);
        return settle(archive.shiftAll(from, to));
    }

    public int stow(int series) {
        if (!archive.isSeries(series)) {
            return UNKNOWN;
        }
        planner.makePlan(archive, series);
        history.remember(archive);
        return settle(archive.layEach(planner.layings()));
    }

    public int pass(int n) {
        history.remember(archive);
        return settle(archive.letPass(n));
    }

    /** A failed call may have got halfway (stow does), so what was remembered is brought back. */
    private int settle(int result) {
        if (result < 0) {
            history.giveBack(archive);
        } else {
            history.keep();
        }
        return result;
    }

    public int undo() {
        return history.stepBack(archive) ? history.steps() : NOT;
    }

    // ---- series, boxes, moves

    public int of(int series, int what) {
        if (!archive.isSeries(series)) {
            return UNKNOWN;
        }
        int a = archive.firstIn(series);
        int b = archive.lastIn(series);
        switch (what) {
            case 0:
                return archive.parentOf(series);
            case 1:
                return a;
            case 2:
                return b;
            case 3:
                return archive.ownCount(series);
            case 4:
                return archive.childrenOf(series);
            case 5:
                return archive.pieces().marksWithin(a, b);
            case 6:
                return b - a + 1 - archive.pieces().sheetsIn(ANY, a, b);
            case 7:
                planner.findGaps(archive, series);
                return planner.gaps().size();
            default:
                return OUTSIDE;
        }
    }

    public int box(int box, int what) {
        if (!isBox(box)) {
            return UNKNOWN;
        }
        switch (what) {
            case 0:
                return archive.roomOf(box);
            case 1:
                return archive.loadOf(box);
            case 2:
                return archive.pieces().countOf(box);
            case 3:
                return archive.seriesIn(box);
            case 4:
                return archive.pieces().lowestOf(box);
            case 5:
                return archive.pieces().highestOf(box);
            default:
                return OUTSIDE;
        }
    }

    public int piece(int k, int what) {
        Ranges pieces = archive.pieces();
        if (!pieces.has(k)) {
            return UNKNOWN;
        }
        return endOrMark(pieces, k, what);
    }

    public int gap(int series, int k, int what) {
        if (!archive.isSeries(series)) {
            return UNKNOWN;
        }
        planner.findGaps(archive, series);
        Ranges gaps = planner.gaps();
        if (!gaps.has(k)) {
            return UNKNOWN;
        }
        if (what != 0 && what != 1) {
            return OUTSIDE;
        }
        return what == 0 ? gaps.firstOf(k) : gaps.lastOf(k);
    }

    public int home(int sheet) {
        return isSheet(sheet) ? archive.homeOf(sheet) : OUTSIDE;
    }

    public int where(int sheet) {
        return isSheet(sheet) ? archive.placeOf(sheet) : OUTSIDE;
    }

    public int was(int sheet, int day) {
        return isSheet(sheet) && day >= 0 ? archive.placeOn(sheet, day) : OUTSIDE;
    }

    public int move(int k, int what) {
        Ranges moves = archive.moves();
        if (!moves.has(k)) {
            return UNKNOWN;
        }
        switch (what) {
            case 0:
                return archive.dayOf(k);
            case 1:
                return moves.firstOf(k);
            case 2:
                return moves.lastOf(k);
            case 3:
                return moves.markOf(k);
            default:
                return OUTSIDE;
        }
    }

    public int trail(int sheet, int k) {
        if (!isSheet(sheet) || k < NONE) {
            return OUTSIDE;
        }
        return archive.trailOf(sheet, k);
    }

    // ---- the list

    public int row(int box, int a, int b) {
        return addRow(box, a, b);
    }

    private int addRow(int box, int a, int b) {
        if (!isBox(box)) {
            return UNKNOWN;
        }
        if (!isRange(a, b)) {
            return OUTSIDE;
        }
        return rows.add(box, a, b) ? rows.size() - 1 : FULL;
    }

    public int clear() {
        int before = rows.size();
        rows.cutTo(0);
        return before;
    }

    public int listed(int row, int what) {
        if (!rows.has(row)) {
            return UNKNOWN;
        }
        int box = rows.markOf(row);
        int a = rows.firstOf(row);
        int b = rows.lastOf(row);
        switch (what) {
            case 0:
                return box;
            case 1:
                return a;
            case 2:
                return b;
            case 3:
                return archive.pieces().sheetsIn(box, a, b);
            case 4:
                return archive.pieces().sheetsIn(ANY, a, b) - archive.pieces().sheetsIn(box, a, b);
            case 5:
                return lowestClash(row);
            default:
                return OUTSIDE;
        }
    }

    private int lowestClash(int row) {
        for (int other = 0; other < rows.size(); other++) {
            if (clash(row, other)) {
                return other;
            }
        }
        return NONE;
    }

    private int clashingPairs() {
        int pairs = 0;
        for (int low = 0; low < rows.size(); low++) {
            for (int high = low + 1; high < rows.size(); high++) {
                if (clash(low, high)) {
                    pairs++;
                }
            }
        }
        return pairs;
    }

    private boolean clash(int one, int other) {
        return rows.markOf(one) != rows.markOf(other)
                && rows.meets(one, rows.firstOf(other), rows.lastOf(other));
    }

    public int unlisted(int box) {
        if (!isBox(box)) {
            return UNKNOWN;
        }
        Ranges pieces = archive.pieces();
        int sum = 0;
        for (int k = 0; k < pieces.size(); k++) {
            if (pieces.markOf(k) == box) {
                sum += rows.bareSheets(box, pieces.firstOf(k), pieces.lastOf(k));
            }
        }
        return sum;
    }

    // ---- labels and plans

    public int label(int box) {
        if (!isBox(box)) {
            return UNKNOWN;
        }
        draft.writeLabel(archive, box);
        if (draft.length() > MOST_SIGNS) {
            return FULL;
        }
        page.copyFrom(draft);
        return page.length();
    }

    public int paper(int i) {
        return page.signAt(i);
    }

    public int plan(int series, int k, int what) {
        if (!archive.isSeries(series)) {
            return UNKNOWN;
        }
        if (k < NONE || (k != NONE && (what < 0 || what > 2))) {
            return OUTSIDE;
        }
        planner.makePlan(archive, series);
        Ranges layings = planner.layings();
        if (k == NONE) {
            return layings.size();
        }
        return layings.has(k) ? endOrMark(layings, k, what) : NONE;
    }

    public int left(int series) {
        if (!archive.isSeries(series)) {
            return UNKNOWN;
        }
        planner.makePlan(archive, series);
        return planner.remaining();
    }

    public int count(int what) {
        switch (what) {
            case 0:
                return archive.seriesCount();
            case 1:
                return archive.pieces().size();
            case 2:
                return archive.moves().size();
            case 3:
                return archive.today();
            case 4:
                return rows.size();
            case 5:
                return archive.pieces().sheetsIn(ANY, 1, LAST_SHEET);
            case 6:
                return archive.ownIn(NONE, ANY);
            case 7:
                return Integer.bitCount(archive.pieces().marksWithin(1, LAST_SHEET));
            case 8:
                return clashingPairs();
            case 9:
                return page.length();
            case 10:
                return history.steps();
            case 11:
                return text.length();
            default:
                return OUTSIDE;
        }
    }

    // ---- what several methods need

    private static boolean isBox(int box) {
        return box >= 0 && box < BOXES;
    }

    private static boolean isSheet(int sheet) {
        return sheet >= 1 && sheet <= LAST_SHEET;
    }

    private static boolean isRange(int a, int b) {
        return isSheet(a) && isSheet(b) && a <= b;
    }

    private static int endOrMark(Ranges ranges, int k, int what) {
        switch (what) {
            case 0:
                return ranges.firstOf(k);
            case 1:
                return ranges.lastOf(k);
            case 2:
                return ranges.markOf(k);
            default:
                return OUTSIDE;
        }
    }

    /** Ranges of sheets, each with a mark: the parent of a series; the box of a piece, a row, a move or a laying. */
    private static final class Ranges {
        private final int[] marks;
        private final int[] firsts;
        private final int[] lasts;
        private int size;

        Ranges(int most) {
            int length = Math.max(most, 0);
            marks = new int[length];
            firsts = new int[length];
            lasts = new int[length];
            size = 0;
        }

        int size() {
            return size;
        }

        boolean has(int k) {
            return k >= 0 && k < size;
        }

        int markOf(int k) {
            return has(k) ? marks[k] : NONE;
        }

        int firstOf(int k) {
            return has(k) ? firsts[k] : NONE;
        }

        int lastOf(int k) {
            return has(k) ? lasts[k] : NONE;
        }

        boolean add(int mark, int a, int b) {
            if (size >= firsts.length) {
                return false;
            }
            marks[size] = mark;
            firsts[size] = a;
            lasts[size] = b;
            size++;
            return true;
        }

        /** Adds a range behind all others; one that goes on where the last one of its mark ends lengthens that. */
        private void join(int mark, int a, int b) {
            int k = size - 1;
            if (k >= 0 && marks[k] == mark && lasts[k] == a - 1) {
                lasts[k] = b;
            } else {
                add(mark, a, b);
            }
        }

        void cutTo(int length) {
            if (length >= 0 && length < size) {
                size = length;
            }
        }

        void copyFrom(Ranges other) {
            int length = Math.min(other.size, firsts.length);
            System.arraycopy(other.marks, 0, marks, 0, length);
            System.arraycopy(other.firsts, 0, firsts, 0, length);
            System.arraycopy(other.lasts, 0, lasts, 0, length);
            size = length;
        }

        /** Becomes the pieces as they are when the sheets a to b of the old ones have come into a box, or out of all. */
        void becomeWith(Ranges old, int box, int a, int b) {
            size = 0;
            for (int k = 0; k < old.size; k++) {
                if (old.firsts[k] < a) {
                    join(old.marks[k], old.firsts[k], Math.min(old.lasts[k], a - 1));
                }
            }
            if (box != NONE) {
                join(box, a, b);
            }
            for (int k = 0; k < old.size; k++) {
                if (old.lasts[k] > b) {
                    join(old.marks[k], Math.max(old.firsts[k], b + 1), old.lasts[k]);
                }
            }
        }

        /** Becomes the pieces as they are when all sheets of one box have come into another. */
        void becomeRemarked(Ranges old, int from, int to) {
            size = 0;
            for (int k = 0; k < old.size; k++) {
                join(old.marks[k] == from ? to : old.marks[k], old.firsts[k], old.lasts[k]);
            }
        }

        boolean meets(int k, int a, int b) {
            return k >= 0 && k < size && firsts[k] <= b && lasts[k] >= a;
        }

        boolean includes(int k, int sheet) {
            return k >= 0 && k < size && firsts[k] <= sheet && lasts[k] >= sheet;
        }

        /** Counts the sheets from a to b in the ranges with a mark, which have no sheet in common. */
        int sheetsIn(int mark, int a, int b) {
            int sum = 0;
            for (int k = 0; k < size; k++) {
                if ((mark == ANY || marks[k] == mark) && meets(k, a, b)) {
                    sum += Math.min(lasts[k], b) - Math.max(firsts[k], a) + 1;
                }
            }
            return sum;
        }

        int countOf(int mark) {
            int sum = 0;
            for (int k = 0; k < size; k++) {
                if (marks[k] == mark) {
                    sum++;
                }
            }
            return sum;
        }

        int marksWithin(int a, int b) {
            int set = 0;
            for (int k = 0; k < size; k++) {
                if (meets(k, a, b)) {
                    set |= 1 << marks[k];
                }
            }
            return set;
        }

        /** Only for pieces, which are in the order of their sheets. */
        int lowestOf(int mark) {
            for (int k = 0; k < size; k++) {
                if (marks[k] == mark) {
                    return firsts[k];
                }
            }
            return NONE;
        }

        /** Only for pieces, which are in the order of their sheets. */
        int highestOf(int mark) {
            for (int k = size - 1; k >= 0; k--) {
                if (marks[k] == mark) {
                    return lasts[k];
                }
            }
            return NONE;
        }

        /** The first sheet from a on that is in no range with this mark. */
        int bareFrom(int mark, int a) {
            int at = a;
            // The ranges have no order, so one turn may end in a range that it has passed already.
            for (int turn = 0; turn < size; turn++) {
                int before = at;
                for (int k = 0; k < size; k++) {
                    if (marks[k] == mark && includes(k, at)) {
                        at = lasts[k] + 1;
                    }
                }
                if (at == before) {
                    break;
                }
            }
            return at;
        }

        /** The last sheet, up to b, of the sequence of bare sheets that begins with a. */
        int bareTo(int mark, int a, int b) {
            int end = b;
            for (int k = 0; k < size; k++) {
                if (marks[k] == mark && firsts[k] > a && firsts[k] <= end) {
                    end = firsts[k] - 1;
                }
            }
            return end;
        }

        /** Counts the sheets from a to b that are in no range with this mark; such ranges may have sheets in common. */
        int bareSheets(int mark, int a, int b) {
            int sum = 0;
            int at = bareFrom(mark, a);
            for (int turn = 0; turn <= size && at <= b; turn++) {
                int end = bareTo(mark, at, b);
                sum += end - at + 1;
                at = bareFrom(mark, end + 1);
            }
            return sum;
        }
    }

    /** All that undo brings back. Series and moves are only added, so that their numbers are enough. */
    private static final class Snapshot {
        private final int[] rooms;
        private final Ranges pieces;
        private int seriesCount;
        private int moveCount;
        private int day;

        Snapshot() {
            rooms = new int[BOXES];
            pieces = new Ranges(MOST_PIECES);
            seriesCount = 0;
            moveCount = 0;
            day = 0;
        }
    }

    /** The series, the boxes with their sheets, the moves and the day. */
    private static final class Archive {
        private final Ranges series;
        private final int[] rooms;
        private final Ranges pieces;
        private final Ranges trial;
        private final Ranges moves;
        private final int[] moveDays;
        private int day;

        Archive() {
            series = new Ranges(MOST_SERIES);
            rooms = new int[BOXES];
            pieces = new Ranges(PIECES_ON_TRIAL);
            trial = new Ranges(PIECES_ON_TRIAL);
            moves = new Ranges(MOST_MOVES);
            moveDays = new int[MOST_MOVES];
            day = 0;
        }

        void empty() {
            series.cutTo(0);
            pieces.cutTo(0);
            moves.cutTo(0);
            day = 0;
            for (int box = 0; box < BOXES; box++) {
                rooms[box] = 0;
            }
        }

        void saveTo(Snapshot snapshot) {
            snapshot.seriesCount = series.size();
            snapshot.moveCount = moves.size();
            snapshot.day = day;
            snapshot.pieces.copyFrom(pieces);
            System.arraycopy(rooms, 0, snapshot.rooms, 0, BOXES);
        }

        void restoreFrom(Snapshot snapshot) {
            series.cutTo(snapshot.seriesCount);
            moves.cutTo(snapshot.moveCount);
            day = snapshot.day;
            pieces.copyFrom(snapshot.pieces);
            System.arraycopy(snapshot.rooms, 0, rooms, 0, BOXES);
        }

        int addSeries(int parent, int a, int b) {
            if (parent != NONE && !isSeries(parent)) {
                return UNKNOWN;
            }
            if (!isRange(a, b)) {
                return OUTSIDE;
            }
            if (a < firstIn(parent) || b > lastIn(parent) || series.sheetsIn(parent, a, b) > 0) {
                return NOT;
            }
            return series.add(parent, a, b) ? series.size() - 1 : FULL;
        }

        int setRoom(int box, int r) {
            if (!isBox(box)) {
                return UNKNOWN;
            }
            if (r < 0 || r > LAST_SHEET) {
                return OUTSIDE;
            }
            if (loadOf(box) > r) {
                return NOT;
            }
            int before = rooms[box];
            rooms[box] = r;
            return before;
        }

        int layInto(int box, int a, int b) {
            if (!isBox(box)) {
                return UNKNOWN;
            }
            if (!isRange(a, b)) {
                return OUTSIDE;
            }
            int fresh = b - a + 1 - pieces.sheetsIn(box, a, b);
            if (fresh > freeIn(box)) {
                return FULL;
            }
            return bring(box, a, b) ? fresh : FULL;
        }

        int takeOut(int a, int b) {
            if (!isRange(a, b)) {
                return OUTSIDE;
            }
            int taken = pieces.sheetsIn(ANY, a, b);
            return bring(NONE, a, b) ? taken : FULL;
        }

        /** Makes a move, if the limits of pieces and moves let it; otherwise nothing changes. */
        private boolean bring(int box, int a, int b) {
            if (moves.size() >= MOST_MOVES) {
                return false;
            }
            trial.becomeWith(pieces, box, a, b);
            if (trial.size() > MOST_PIECES) {
                return false;
            }
            pieces.copyFrom(trial);
            enter(box, a, b);
            return true;
        }

        private void enter(int box, int a, int b) {
            int k = moves.size();
            if (k < MOST_MOVES) {
                moveDays[k] = day;
                moves.add(box, a, b);
            }
        }

        int shiftAll(int from, int to) {
            if (!isBox(from) || !isBox(to) || from == to) {
                return UNKNOWN;
            }
            int shifted = pieces.countOf(from);
            if (loadOf(from) > freeIn(to) || moves.size() + shifted > MOST_MOVES) {
                return FULL;
            }
            for (int k = 0; k < pieces.size(); k++) {
                if (pieces.markOf(k) == from) {
                    enter(to, pieces.firstOf(k), pieces.lastOf(k));
                }
            }
            // Whole pieces change their box, so there are never more pieces than before.
            trial.becomeRemarked(pieces, from, to);
            pieces.copyFrom(trial);
            return shifted;
        }

        /** The loads need no test: the plan has kept to what is free. */
        int layEach(Ranges layings) {
            for (int k = 0; k < layings.size(); k++) {
                if (!bring(layings.markOf(k), layings.firstOf(k), layings.lastOf(k))) {
                    return FULL;
                }
            }
            return layings.size();
        }

        int letPass(int n) {
            if (n < 1 || n > MOST_DAYS) {
                return OUTSIDE;
            }
            day += n;
            return day;
        }

        Ranges pieces() {
            return pieces;
        }

        Ranges moves() {
            return moves;
        }

        Ranges allSeries() {
            return series;
        }

        int today() {
            return day;
        }

        int dayOf(int k) {
            return k >= 0 && k < moveDays.length ? moveDays[k] : NONE;
        }

        int roomOf(int box) {
            return isBox(box) ? rooms[box] : 0;
        }

        int loadOf(int box) {
            return pieces.sheetsIn(box, 1, LAST_SHEET);
        }

        int freeIn(int box) {
            return roomOf(box) - loadOf(box);
        }

        int seriesCount() {
            return series.size();
        }

        boolean isSeries(int number) {
            return series.has(number);
        }

        int parentOf(int number) {
            return series.markOf(number);
        }

        /** Without a series (NONE) the range is that of all sheets, whose children are the series without a parent. */
        int firstIn(int number) {
            return number == NONE ? 1 : series.firstOf(number);
        }

        int lastIn(int number) {
            return number == NONE ? LAST_SHEET : series.lastOf(number);
        }

        int childrenOf(int number) {
            int set = 0;
            for (int k = 0; k < series.size(); k++) {
                if (series.markOf(k) == number) {
                    set |= 1 << k;
                }
            }
            return set;
        }

        int ownCount(int number) {
            int a = firstIn(number);
            int b = lastIn(number);
            return b - a + 1 - series.sheetsIn(number, a, b);
        }

        /** Counts the own sheets of a series, or those without a home (NONE), in a box. */
        int ownIn(int number, int box) {
            int sum = pieces.sheetsIn(box, firstIn(number), lastIn(number));
            for (int k = 0; k < series.size(); k++) {
                if (series.markOf(k) == number) {
                    sum -= pieces.sheetsIn(box, series.firstOf(k), series.lastOf(k));
                }
            }
            return sum;
        }

        int seriesIn(int box) {
            int set = 0;
            for (int k = 0; k < series.size(); k++) {
                if (ownIn(k, box) > 0) {
                    set |= 1 << k;
                }
            }
            return set;
        }

        /** The series that hold a sheet are each within the one before, so the one that was added last is its home. */
        int homeOf(int sheet) {
            for (int k = series.size() - 1; k >= 0; k--) {
                if (series.includes(k, sheet)) {
                    return k;
                }
            }
            return NONE;
        }

        int placeOf(int sheet) {
            for (int k = 0; k < pieces.size(); k++) {
                if (pieces.includes(k, sheet)) {
                    return pieces.markOf(k);
                }
            }
            return NONE;
        }

        int placeOn(int sheet, int lastDay) {
            for (int k = moves.size() - 1; k >= 0; k--) {
                if (dayOf(k) <= lastDay && moves.includes(k, sheet)) {
                    return moves.markOf(k);
                }
            }
            return NONE;
        }

        int trailOf(int sheet, int index) {
            int place = NONE;
            int found = 0;
            for (int k = 0; k < moves.size(); k++) {
                if (moves.includes(k, sheet) && moves.markOf(k) != place) {
                    if (found == index) {
                        return k;
                    }
                    place = moves.markOf(k);
                    found++;
                }
            }
            return index == NONE ? found : NONE;
        }
    }

    /** The latest states, in a ring; one slot more than can be undone, for the state before the present call. */
    private static final class History {
        private final Snapshot[] slots;
        private int top;
        private int steps;

        History() {
            slots = new Snapshot[MOST_UNDOS + 1];
            for (int k = 0; k < slots.length; k++) {
                slots[k] = new Snapshot();
            }
            top = 0;
            steps = 0;
        }

        int steps() {
            return steps;
        }

        void forget() {
            steps = 0;
        }

        private Snapshot topSlot() {
            return top >= 0 && top < slots.length ? slots[top] : null;
        }

        void remember(Archive archive) {
            Snapshot slot = topSlot();
            if (slot != null) {
                archive.saveTo(slot);
            }
        }

        void giveBack(Archive archive) {
            Snapshot slot = topSlot();
            if (slot != null) {
                archive.restoreFrom(slot);
            }
        }

        void keep() {
            top = top < MOST_UNDOS ? top + 1 : 0;
            steps = Math.min(steps + 1, MOST_UNDOS);
        }

        boolean stepBack(Archive archive) {
            if (steps == 0) {
                return false;
            }
            top = top > 0 ? top - 1 : MOST_UNDOS;
            steps--;
            giveBack(archive);
            return true;
        }
    }

    /** Finds the gaps of a series, and where they would be laid. */
    private static final class Planner {
        private final Ranges gaps;
        private final Ranges layings;
        private final int[] free;
        private int remaining;

        Planner() {
            gaps = new Ranges(MOST_GAPS);
            layings = new Ranges(MOST_LAYINGS);
            free = new int[BOXES];
            remaining = 0;
        }

        Ranges gaps() {
            return gaps;
        }

        Ranges layings() {
            return layings;
        }

        int remaining() {
            return remaining;
        }

        void findGaps(Archive archive, int series) {
            Ranges pieces = archive.pieces();
            int b = archive.lastIn(series);
            int from = archive.firstIn(series);
            gaps.cutTo(0);
            for (int k = 0; k < pieces.size(); k++) {
                if (pieces.meets(k, from, b)) {
                    if (pieces.firstOf(k) > from) {
                        gaps.add(NONE, from, pieces.firstOf(k) - 1);
                    }
                    from = pieces.lastOf(k) + 1;
                }
            }
            if (from <= b) {
                gaps.add(NONE, from, b);
            }
        }

        void makePlan(Archive archive, int series) {
            findGaps(archive, series);
            for (int box = 0; box < BOXES; box++) {
                free[box] = archive.freeIn(box);
            }
            layings.cutTo(0);
            remaining = 0;
            for (int k = 0; k < gaps.size(); k++) {
                place(gaps.firstOf(k), gaps.lastOf(k));
            }
        }

        /** Each laying but the last one of a gap fills a box, so there are at most as many as boxes, and one. */
        private void place(int a, int b) {
            int from = a;
            for (int turn = 0; turn <= BOXES && from <= b; turn++) {
                int box = chooseBox(b - from + 1);
                if (!isBox(box)) {
                    break;
                }
                int laid = Math.min(free[box], b - from + 1);
                layings.add(box, from, from + laid - 1);
                free[box] -= laid;
                from += laid;
            }
            remaining += b - from + 1;
        }

        private int chooseBox(int sheets) {
            int tight = tightestFor(sheets);
            return tight != NONE ? tight : widest();
        }

        private int tightestFor(int sheets) {
            int best = NONE;
            for (int box = 0; box < BOXES; box++) {
                if (free[box] >= sheets && (best == NONE || free[box] < free[best])) {
                    best = box;
                }
            }
            return best;
        }

        private int widest() {
            int best = NONE;
            for (int box = 0; box < BOXES; box++) {
                if (free[box] > 0 && (best == NONE || free[box] > free[best])) {
                    best = box;
                }
            }
            return best;
        }
    }

    /** A paper. Its length goes on beyond what it can hold, so that a label too long for it is noticed. */
    private static final class Page {
        private final int[] signs;
        private int length;
        private int latest;

        Page() {
            signs = new int[MOST_SIGNS];
            length = 0;
            latest = NONE;
        }

        int length() {
            return length;
        }

        int signAt(int i) {
            return i >= 0 && i < length && i < signs.length ? signs[i] : NONE;
        }

        void wipe() {
            length = 0;
            latest = NONE;
        }

        void copyFrom(Page other) {
            System.arraycopy(other.signs, 0, signs, 0, MOST_SIGNS);
            length = other.length;
            latest = other.latest;
        }

        void writeLabel(Archive archive, int box) {
            wipe();
            for (int k = 0; k < archive.seriesCount(); k++) {
                writePart(archive, k, box);
            }
            writePart(archive, NONE, box);
        }

        private void writePart(Archive archive, int home, int box) {
            if (archive.ownIn(home, box) == 0) {
                return;
            }
            if (length > 0) {
                put(';');
            }
            if (home == NONE) {
                put('x');
            } else {
                putNumber(home);
            }
            put(':');
            int first = archive.firstIn(home);
            int last = archive.lastIn(home);
            Ranges pieces = archive.pieces();
            for (int k = 0; k < pieces.size(); k++) {
                if (pieces.markOf(k) == box && pieces.meets(k, first, last)) {
                    int a = Math.max(pieces.firstOf(k), first);
                    int b = Math.min(pieces.lastOf(k), last);
                    writeOwn(archive.allSeries(), home, a, b);
                }
            }
        }

        /** Writes the sheets from a to b that are in no child of their series. */
        private void writeOwn(Ranges series, int home, int a, int b) {
            int at = series.bareFrom(home, a);
            for (int turn = 0; turn <= series.size() && at <= b; turn++) {
                int end = series.bareTo(home, at, b);
                putRange(at, end);
                at = series.bareFrom(home, end + 1);
            }
        }

        private void putRange(int a, int b) {
            if (latest != ':') {
                put(',');
            }
            putNumber(a);
            if (b > a) {
                put('-');
                putNumber(b);
            }
        }

        private void putNumber(int number) {
            boolean begun = false;
            for (int unit = 1000000000; unit > 0; unit /= 10) {
                int digit = number / unit % 10;
                begun = begun || digit != 0 || unit == 1;
                if (begun) {
                    put('0' + digit);
                }
            }
        }

        private void put(int sign) {
            if (length < signs.length) {
                signs[length] = sign;
            }
            length++;
            latest = sign;
        }
    }

    /** The text, and the commands that were read from it. */
    private static final class Text {
        private final int[] bytes;
        private final int[] verbs;
        private final int[] numbers;
        private int length;
        private int commandCount;
        private int at;

        Text() {
            bytes = new int[MOST_BYTES];
            verbs = new int[MOST_COMMANDS];
            numbers = new int[MOST_COMMANDS * MOST_NUMBERS];
            length = 0;
            commandCount = 0;
            at = 0;
        }

        int length() {
            return length;
        }

        int commandCount() {
            return commandCount;
        }

        int verbOf(int c) {
            return c >= 0 && c < verbs.length ? verbs[c] : NONE;
        }

        int numberOf(int c, int i) {
            int slot = c * MOST_NUMBERS + i;
            return slot >= 0 && slot < numbers.length ? numbers[slot] : NONE;
        }

        private void setNumber(int c, int i, int value) {
            int slot = c * MOST_NUMBERS + i;
            if (slot >= 0 && slot < numbers.length) {
                numbers[slot] = value;
            }
        }

        boolean append(int letter) {
            if (length >= bytes.length) {
                return false;
            }
            bytes[length] = letter;
            length++;
            return true;
        }

        void wipe() {
            length = 0;
        }

        /** Reads the commands; answers the position of the fault, or NONE. */
        int read() {
            at = 0;
            commandCount = 0;
            for (int c = 0; c < MOST_COMMANDS; c++) {
                int fault = readCommand(c);
                if (fault != NONE) {
                    return fault;
                }
                commandCount = c + 1;
                skipBlanks();
                if (at >= length) {
                    return NONE;
                }
                if (byteHere() != ';' || commandCount == MOST_COMMANDS) {
                    return at;
                }
                at++;
            }
            return at;
        }

        /** At the end of the text there is neither a word nor a number, so that the fault is at its length. */
        private int readCommand(int c) {
            skipBlanks();
            int start = at;
            skipWord();
            int verb = verbFrom(start);
            if (verb == NONE || c < 0 || c >= verbs.length) {
                return start;
            }
            verbs[c] = verb;
            String kinds = kindsOf(verb);
            int before = 0;
            for (int i = 0; i < kinds.length(); i++) {
                skipBlanks();
                int from = at;
                long value = readNumber();
                if (value < lowest(kinds.charAt(i), before) || value > highest(kinds.charAt(i))) {
                    return from;
                }
                before = (int) value;
                setNumber(c, i, before);
            }
            return NONE;
        }

        private int byteHere() {
            return at >= 0 && at < length && at < bytes.length ? bytes[at] : NONE;
        }

        private void skipBlanks() {
            for (int turn = 0; turn < MOST_BYTES && byteHere() == ' '; turn++) {
                at++;
            }
        }

        private void skipWord() {
            for (int turn = 0; turn < MOST_BYTES && byteHere() >= 'a' && byteHere() <= 'z'; turn++) {
                at++;
            }
        }

        /** Answers a value that no kind of number allows, if there is no number, or too long a one. */
        private long readNumber() {
            long value = 0;
            int digits = 0;
            for (int turn = 0; turn < MOST_BYTES && byteHere() >= '0' && byteHere() <= '9'; turn++) {
                if (digits < MOST_DIGITS) {
                    value = value * 10 + (byteHere() - '0');
                }
                digits++;
                at++;
            }
            return digits == 0 || digits > MOST_DIGITS ? NONE : value;
        }

        private int verbFrom(int start) {
            for (int verb = 0; verb < VERBS; verb++) {
                if (isWord(wordOf(verb), start)) {
                    return verb;
                }
            }
            return NONE;
        }

        private boolean isWord(String word, int start) {
            if (start < 0 || at - start != word.length()) {
                return false;
            }
            for (int i = 0; i < word.length() && start + i < bytes.length; i++) {
                if (bytes[start + i] != word.charAt(i)) {
                    return false;
                }
            }
            return true;
        }

        private static String wordOf(int verb) {
            switch (verb) {
                case ALL:
                    return "all";
                case SERIES:
                    return "series";
                case TOP:
                    return "top";
                case BOX:
                    return "box";
                case LAY:
                    return "lay";
                case TAKE:
                    return "take";
                case ROW:
                    return "row";
                default:
                    return "pass";
            }
        }

        /** The numbers behind the word, by the letters that they have in the grammar. */
        private static String kindsOf(int verb) {
            switch (verb) {
                case ALL:
                    return "";
                case SERIES:
                    return "PAB";
                case TOP:
                case TAKE:
                    return "AB";
                case BOX:
                    return "XR";
                case LAY:
                case ROW:
                    return "XAB";
                default:
                    return "N";
            }
        }

        private static int lowest(int kind, int before) {
            switch (kind) {
                case 'A':
                case 'N':
                    return 1;
                case 'B':
                    return before;
                default:
                    return 0;
            }
        }

        private static int highest(int kind) {
            switch (kind) {
                case 'P':
                    return MOST_SERIES - 1;
                case 'X':
                    return BOXES - 1;
                case 'N':
                    return MOST_DAYS;
                default:
                    return LAST_SHEET;
            }
        }
    }
}
