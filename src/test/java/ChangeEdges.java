/** The calls that change the archive, and undo: promises 6 to 13. */
final class ChangeEdges {
    private static final int NONE = BoxedPapers.NONE;

    private ChangeEdges() { }

    static void all() {
        series();
        seriesRefused();
        room();
        lay();
        layRefused();
        take();
        takeRefused();
        shift();
        shiftRefused();
        stow();
        stowRefused();
        pass();
        undo();
        undoOfEachCall();
        undoLimit();
    }

    private static Story begin(String calls) {
        return Story.begin(calls);
    }

    private static void series() {
        Sentences.quote(6, "Adds a series");
        begin("series(NONE, 5, 9) = 0; of(0, 0) = NONE; of(0, 1) = 5; of(0, 2) = 9; count(0) = 1; count(10) = 1; count(2) = 0");
        Sentences.quote(6, "number of the parent, or NONE");
        begin("series(NONE, 5, 9) = 0; series(0, 5, 9) = 1; series(NONE, 1, 4) = 2; of(1, 0) = 0; of(2, 0) = NONE");
        Sentences.quote(6, "the first sheet of the range, 1 to 2000000000");
        begin("series(NONE, 0, 9) = OUTSIDE; series(NONE, 1, 9) = 0; of(0, 1) = 1; series(NONE, TOP, TOP) = 1; of(1, 1) = TOP; "
                + "series(NONE, TOP+1, TOP+1) = OUTSIDE");
        Sentences.quote(6, "the last sheet of the range, a to 2000000000");
        begin("series(NONE, 7, 6) = OUTSIDE; series(NONE, 7, 7) = 0; of(0, 2) = 7; series(NONE, 8, TOP+1) = OUTSIDE; "
                + "series(NONE, 8, TOP) = 1; of(1, 2) = TOP");
        Sentences.quote(6, "Returns the number of the series");
        begin("series(NONE, 1, 9) = 0; series(0, 1, 9) = 1; series(NONE, 10, 10) = 2; undo(); series(1, 2, 3) = 2");
    }

    private static void seriesRefused() {
        Sentences.quote(6, "UNKNOWN if there is no such parent");
        begin("series(0, 1, 1) = UNKNOWN; series(-2, 1, 1) = UNKNOWN; series(-100, 1, 1) = UNKNOWN; series(MIN, 1, 1) = UNKNOWN; "
                + "series(MAX, 1, 1) = UNKNOWN; series(NONE, 1, 1); series(1, 1, 1) = UNKNOWN; series(0, 1, 1) = 1; undo(); "
                + "series(1, 1, 1) = UNKNOWN");
        Sentences.quote(6, "OUTSIDE if a or b is out of range");
        begin("series(NONE, 0, 1) = OUTSIDE; series(NONE, -5, 5) = OUTSIDE; series(NONE, MIN, MAX) = OUTSIDE; series(NONE, 1, 0) = OUTSIDE; "
                + "series(NONE, 2, 1) = OUTSIDE; series(NONE, 1, TOP+1) = OUTSIDE; series(NONE, 5, MIN) = OUTSIDE; "
                + "series(NONE, MAX, MIN) = OUTSIDE; count(0) = 0; count(10) = 0");
        Sentences.quote(6, "NOT if the range is not within that of the parent, or has a sheet in common with that of a series");
        begin("series(NONE, 10, 20); series(0, 9, 10) = NOT; series(0, 20, 21) = NOT; series(0, 30, 31) = NOT; series(NONE, 9, 10) = NOT; "
                + "series(NONE, 20, 21) = NOT; series(0, 15, 16) = 1; series(0, 16, 17) = NOT; series(0, 14, 15) = NOT; series(1, 16, 17) = NOT; "
                + "series(1, 14, 15) = NOT; count(0) = 2; count(10) = 2");
        Sentences.quote(6, "FULL if there are 10 series");
        Story ten = Story.begin();
        for (int k = 0; k < 10; k++) {
            ten.due(k, "series", k - 1, 1, 20 - k);
        }
        ten.go("of(9, 0) = 8; series(9, 1, 1) = FULL; series(NONE, 30, 30) = FULL; count(0) = 10; home(1) = 9; home(20) = 0; undo(); "
                + "series(NONE, 30, 30) = 9; series(NONE, 31, 31) = FULL");
    }

    private static void room() {
        Sentences.quote(7, "Sets the room of a box");
        begin("room(5, 9) = 0; box(5, 0) = 9; box(4, 0) = 0; box(6, 0) = 0; lay(5, 1, 9) = 9; room(5, 20); lay(5, 10, 20) = 11; count(10) = 4");
        Sentences.quote(7, "number of the box");
        begin("room(0, 1) = 0; room(7, 2) = 0; box(0, 0) = 1; box(7, 0) = 2");
        Sentences.quote(7, "the new room, 0 to 2000000000");
        begin("room(0, 0) = 0; box(0, 0) = 0; room(0, TOP) = 0; box(0, 0) = TOP; room(0, TOP+1) = OUTSIDE; room(0, -1) = OUTSIDE");
        Sentences.quote(7, "Returns the previous room");
        begin("room(0, 5) = 0; room(0, TOP) = 5; room(0, TOP) = TOP; room(0, 0) = TOP; room(0, 1) = 0; undo(); room(0, 2) = 0");
        Sentences.quote(7, "UNKNOWN if there is no such box");
        begin("room(8, 1) = UNKNOWN; room(-1, 1) = UNKNOWN; room(-2, 1) = UNKNOWN; room(MIN, 1) = UNKNOWN; room(MAX, 1) = UNKNOWN");
        Sentences.quote(7, "OUTSIDE if r is out of range");
        begin("room(0, 7); room(0, -1) = OUTSIDE; room(0, TOP+1) = OUTSIDE; room(0, MIN) = OUTSIDE; room(0, MAX) = OUTSIDE; box(0, 0) = 7");
        Sentences.quote(7, "NOT if the load of the box is greater than r");
        begin("room(0, 9); lay(0, 1, 5); room(0, 4) = NOT; room(0, 0) = NOT; box(0, 0) = 9; room(0, 5) = 9; room(0, 4) = NOT; take(5, 5); "
                + "room(0, 4) = 5; room(1, 0) = 0");
        begin("room(0, TOP); lay(0, 1, TOP); room(0, TOP-1) = NOT; room(0, TOP) = TOP");
    }

    private static void lay() {
        Sentences.quote(8, "Lays a range into a box");
        begin("room(3, 9); lay(3, 5, 7) = 3; where(4) = NONE; where(5) = 3; where(7) = 3; where(8) = NONE; box(3, 1) = 3");
        Sentences.quote(8, "This is a move, also if all sheets are in the box already");
        begin("room(3, 9); lay(3, 5, 7) = 3; count(2) = 1; lay(3, 5, 7) = 0; count(2) = 2; lay(3, 6, 6) = 0; count(2) = 3; move(1, *) = 0 5 7 3; "
                + "move(2, *) = 0 6 6 3; trail(6, NONE) = 1; count(1) = 1; count(10) = 4");
        Sentences.quote(8, "number of the box");
        begin("room(0, 1); room(7, 1); lay(0, 1, 1) = 1; lay(7, 2, 2) = 1; where(1) = 0; where(2) = 7");
        Sentences.quote(8, "the first sheet of the range, 1 to 2000000000");
        begin("room(0, 9); lay(0, 0, 1) = OUTSIDE; lay(0, 1, 2) = 2; lay(0, TOP, TOP) = 1; lay(0, TOP+1, TOP+1) = OUTSIDE");
        Sentences.quote(8, "the last sheet of the range, a to 2000000000");
        begin("room(0, 9); lay(0, 5, 4) = OUTSIDE; lay(0, 5, 5) = 1; lay(0, TOP-1, TOP) = 2; lay(0, TOP-1, TOP+1) = OUTSIDE");
        Sentences.quote(8, "Returns how many of these sheets were not in this box before");
        begin("room(0, 99); room(1, 99); lay(0, 10, 19) = 10; lay(0, 10, 19) = 0; lay(0, 15, 24) = 5; lay(0, 5, 30) = 11; lay(1, 9, 12) = 4; "
                + "lay(0, 10, 10) = 1; lay(0, 1, 40) = 17; lay(1, 40, 41) = 2");
        begin("room(0, TOP); room(1, TOP); lay(0, 1, TOP) = TOP; lay(1, 1, TOP) = TOP; lay(1, 1, TOP) = 0; lay(0, 7, 7) = 1; lay(1, 1, TOP) = 1");
    }

    private static void layRefused() {
        Sentences.quote(8, "UNKNOWN if there is no such box");
        begin("lay(8, 1, 1) = UNKNOWN; lay(-1, 1, 1) = UNKNOWN; lay(MIN, 1, 1) = UNKNOWN; lay(MAX, 1, 1) = UNKNOWN; count(2) = 0");
        Sentences.quote(8, "OUTSIDE if a or b is out of range");
        begin("room(0, TOP); lay(0, 0, 1) = OUTSIDE; lay(0, 0, 0) = OUTSIDE; lay(0, 1, 0) = OUTSIDE; lay(0, 1, TOP+1) = OUTSIDE; "
                + "lay(0, MIN, MAX) = OUTSIDE; lay(0, -1, 1) = OUTSIDE; lay(0, MAX, MIN) = OUTSIDE; lay(0, 1, MIN) = OUTSIDE; count(2) = 0");
        Sentences.quote(8, "FULL if it is not possible");
        begin("lay(0, 1, 1) = FULL; room(0, 3); lay(0, 1, 4) = FULL; lay(0, 1, 3) = 3; lay(0, 1, 4) = FULL; lay(0, 4, 4) = FULL; count(2) = 1");
        begin("room(0, TOP-1); lay(0, 1, TOP) = FULL; lay(0, 1, TOP-1) = TOP-1; lay(0, TOP, TOP) = FULL");
        Story.pieces(39).go("room(1, 9); lay(0, 500, 500) = 1; lay(1, 600, 600) = FULL; count(1) = 40; lay(1, 500, 501) = 2; count(1) = 40");
        Story.pieces(38).go("room(1, 9); lay(0, 11, 12); lay(1, 11, 11) = 1; count(1) = 40; lay(1, 10, 10) = 1; count(1) = 39");
        Story.pieces(39).go("room(1, 9); lay(0, 11, 12); lay(1, 11, 11) = FULL; count(1) = 39; lay(1, 12, 12) = 1; count(1) = 40");
        Story.pieces(40).go("room(1, 9); lay(0, 11, 12); lay(1, 11, 11) = FULL; lay(1, 12, 12) = FULL; lay(1, 10, 12) = 3; count(1) = 40; "
                + "lay(0, 15, 25) = 10; count(1) = 40");
        Story.moves(98).go("room(0, 9); lay(0, 1, 1) = 1; lay(0, 1, 1) = 0; lay(0, 1, 1) = FULL; count(2) = 100");
    }

    private static void take() {
        Sentences.quote(9, "Takes a range out of all boxes");
        begin("room(0, 9); room(7, 9); lay(0, 1, 4); lay(7, 5, 8); take(3, 6) = 4; where(2) = 0; where(3) = NONE; where(6) = NONE; where(7) = 7; "
                + "box(0, 1) = 2; box(7, 1) = 2; take(1, TOP) = 4; count(5) = 0; count(1) = 0");
        Sentences.quote(9, "This is a move, also if none of the sheets is in a box");
        begin("take(5, 6) = 0; count(2) = 1; move(0, *) = 0 5 6 NONE; count(10) = 1; trail(5, NONE) = 0");
        Sentences.quote(9, "the first sheet of the range, 1 to 2000000000");
        begin("take(0, 1) = OUTSIDE; take(1, 1) = 0; take(TOP, TOP) = 0; take(TOP+1, TOP+1) = OUTSIDE");
        Sentences.quote(9, "the last sheet of the range, a to 2000000000");
        begin("take(5, 4) = OUTSIDE; take(5, 5) = 0; take(5, TOP) = 0; take(5, TOP+1) = OUTSIDE");
        Sentences.quote(9, "Returns how many of these sheets were in a box before");
        begin("room(0, TOP); lay(0, 1, TOP); take(5, 5) = 1; take(5, 5) = 0; take(4, 6) = 2; take(1, TOP) = TOP-3; take(1, TOP) = 0");
        begin("room(0, 9); room(1, 9); lay(0, 1, 2); lay(1, 4, 5); take(2, 4) = 2; take(1, 9) = 2");
    }

    private static void takeRefused() {
        Sentences.quote(9, "OUTSIDE if a or b is out of range");
        begin("take(0, 0) = OUTSIDE; take(0, 1) = OUTSIDE; take(1, 0) = OUTSIDE; take(1, TOP+1) = OUTSIDE; take(MIN, MAX) = OUTSIDE; "
                + "take(2, 1) = OUTSIDE; take(-3, 3) = OUTSIDE; take(3, -3) = OUTSIDE; count(2) = 0");
        Sentences.quote(9, "FULL if there would be more than 40 pieces, or there are 100 moves already");
        Story.pieces(39).go("lay(0, 401, 403); count(1) = 40; take(402, 402) = FULL; take(401, 401) = 1; take(403, 403) = 1; take(402, 402) = 1; "
                + "count(1) = 39");
        Story.pieces(38).go("lay(0, 401, 403); take(402, 402) = 1; count(1) = 40; take(401, 403) = 2; count(1) = 38");
        Story.moves(99).go("take(1, 1) = 0; take(1, 1) = FULL; take(1, TOP) = FULL; count(2) = 100");
    }

    private static void shift() {
        Sentences.quote(10, "Lays all sheets of a box into another one, piece by piece, in the order of the pieces as they are before");
        String three = "room(0, 50); room(1, 6); room(2, 50); lay(0, 9, 9); lay(1, 3, 3); lay(0, 4, 5); lay(2, 6, 6); lay(0, 1, 2); pass(4); ";
        begin(three + "shift(0, 1) = 3; move(5, *) = 4 1 2 1; move(6, *) = 4 4 5 1; move(7, *) = 4 9 9 1; box(0, 1) = 0; box(1, 1) = 6; "
                + "box(1, 2) = 2; piece(0, *) = 1 5 1; piece(1, *) = 6 6 2; piece(2, *) = 9 9 1; where(9) = 1; was(9, 3) = 0; was(9, 4) = 1");
        Sentences.quote(10, "Each of them is a move");
        begin(three + "count(2) = 5; shift(0, 2) = 3; count(2) = 8; trail(4, NONE) = 2; trail(4, 1) = 6; trail(3, NONE) = 1; count(10) = 8; "
                + "undo(); count(2) = 5; where(4) = 0");
        Sentences.quote(10, "number of the box");
        begin("room(0, 5); room(7, 5); lay(0, 1, 1); shift(0, 7) = 1; shift(7, 0) = 1; where(1) = 0");
        Sentences.quote(10, "number of the other box");
        begin("room(6, 5); room(7, 5); lay(6, 1, 1); shift(6, 7) = 1; where(1) = 7; shift(7, 6) = 1; where(1) = 6");
        Sentences.quote(10, "Returns the number of these pieces (0 if the box is empty)");
        begin("shift(0, 1) = 0; count(2) = 0; count(10) = 1; room(0, 3); lay(0, 1, 2); lay(0, 4, 4); room(1, 9); lay(1, 3, 3); shift(0, 1) = 2; "
                + "count(1) = 1; shift(0, 1) = 0; shift(1, 0) = FULL; take(1, 4); shift(1, 0) = 0");
        Story.pieces(40).go("room(1, 40); shift(0, 1) = 40; count(1) = 40; box(1, 2) = 40; count(2) = 80");
    }

    private static void shiftRefused() {
        Sentences.quote(10, "UNKNOWN if there is no such box (either one), or both are the same");
        begin("shift(8, 0) = UNKNOWN; shift(0, 8) = UNKNOWN; shift(-1, 0) = UNKNOWN; shift(0, -1) = UNKNOWN; shift(MIN, MAX) = UNKNOWN; "
                + "shift(0, 0) = UNKNOWN; shift(7, 7) = UNKNOWN; shift(8, 8) = UNKNOWN; shift(-1, -1) = UNKNOWN; count(10) = 0");
        begin("room(0, 5); lay(0, 1, 1); shift(0, 0) = UNKNOWN");
        Sentences.quote(10, "FULL if the load of the other box would be greater than its room, or there would be more than 100 moves");
        begin("room(0, 9); room(1, 8); lay(0, 1, 5); lay(1, 11, 14); shift(0, 1) = FULL; room(1, 9); shift(0, 1) = 1; box(1, 1) = 9");
        begin("room(0, TOP); lay(0, 1, TOP); room(1, TOP-1); shift(0, 1) = FULL; room(1, TOP); shift(0, 1) = 1; box(1, 1) = TOP");
        begin("room(0, 9); lay(0, 1, 1); lay(0, 3, 3); room(1, 1); shift(0, 1) = FULL; where(1) = 0; count(2) = 2; room(1, 2); shift(0, 1) = 2");
        Story.moves(96).go("room(0, 9); room(1, 9); lay(0, 1, 1); lay(0, 3, 3); shift(0, 1) = 2; count(2) = 100; shift(1, 0) = FULL; "
                + "shift(0, 1) = 0; count(10) = 8");
        Story.moves(97).go("room(0, 9); room(1, 9); lay(0, 1, 1); lay(0, 3, 3); shift(0, 1) = FULL; count(2) = 99; where(1) = 0; where(3) = 0");
        Story.moves(100).go("shift(0, 1) = 0; count(2) = 100");
    }

    private static void stow() {
        Sentences.quote(11, "Lays the layings of the plan of a series, in their order");
        String planned = "series(NONE, 1, 100); series(0, 20, 29); room(0, 50); room(3, 8); lay(0, 15, 24); pass(7); ";
        begin(planned + "stow(0) = 3; move(1, *) = 7 1 14 0; move(2, *) = 7 25 50 0; move(3, *) = 7 51 58 3; where(14) = 0; where(50) = 0; "
                + "where(51) = 3; where(58) = 3; where(59) = NONE; of(0, 6) = 42; count(1) = 2; count(10) = 7");
        begin(planned + "stow(1) = 1; move(1, *) = 7 25 29 3; of(1, 6) = 0; of(0, 6) = 85");
        Sentences.quote(11, "Each of them is a move");
        begin(planned + "count(2) = 1; stow(0) = 3; count(2) = 4; stow(0) = 0; count(2) = 4; undo(); undo(); count(2) = 1; of(0, 6) = 90");
        Sentences.quote(11, "number of the series");
        begin(planned + "stow(0) = 3").go("stow(1) = 0");
        Sentences.quote(11, "Returns the number of layings");
        begin("series(NONE, 1, 9); stow(0) = 0; count(10) = 2; room(0, 2); room(1, 3); stow(0) = 2; stow(0) = 0; room(2, 4); stow(0) = 1; "
                + "stow(0) = 0; of(0, 7) = 0; count(2) = 3");
        begin("series(NONE, 1, TOP); room(7, TOP); stow(0) = 1; box(7, 1) = TOP; stow(0) = 0");
        Story.pieces(40).go("series(NONE, 1, TOP); stow(0) = 41; count(1) = 1; count(2) = 81; box(0, 1) = TOP");
    }

    private static void stowRefused() {
        Sentences.quote(11, "UNKNOWN if there is no such series");
        begin("stow(0) = UNKNOWN; stow(-1) = UNKNOWN; stow(MIN) = UNKNOWN; stow(MAX) = UNKNOWN; series(NONE, 1, 1); stow(1) = UNKNOWN; "
                + "stow(0) = 0; undo(); undo(); stow(0) = UNKNOWN");
        Sentences.quote(11, "FULL if one of them is not possible after those before it (then none is done)");
        Story.pieces(38).go("series(NONE, 1, 29); room(0, 38); room(1, 99); stow(0) = FULL; count(1) = 38; count(2) = 38; where(1) = NONE");
        Story.pieces(38).go("series(NONE, 1, 19); room(0, 38); room(1, 99); stow(0) = 2; count(1) = 40; count(2) = 40");
        Story.pieces(39).go("series(NONE, 1, 19); room(0, 39); room(1, 99); stow(0) = FULL; count(1) = 39; where(5) = NONE");
        Story.pieces(40).go("series(NONE, 5, 39); room(0, 58); room(1, 14); plan(0, NONE, 0) = 4; plan(0, 0, *) = 5 9 1; stow(0) = FULL; "
                + "count(1) = 40; count(2) = 40");
        Story.pieces(40).go("series(NONE, 11, 39); room(0, 58); room(1, 9); plan(0, 0, 2) = 1; plan(0, 1, 2) = 0; stow(0) = FULL; "
                + "count(1) = 40; where(21) = NONE; where(11) = NONE");
        Story.moves(97).go("series(NONE, 1, 9); room(0, 9); lay(0, 5, 5); stow(0) = 2; count(2) = 100; stow(0) = 0");
        Story.moves(98).go("series(NONE, 1, 9); room(0, 9); lay(0, 5, 5); stow(0) = FULL; count(2) = 99; of(0, 6) = 8; count(10) = 8");
        Story.moves(100).go("series(NONE, 1, 9); stow(0) = 0; room(0, 1); stow(0) = FULL; room(0, 0); stow(0) = 0");
    }

    private static void pass() {
        Sentences.quote(12, "Lets days pass");
        begin("pass(3); count(3) = 3; take(1, 1); move(0, 0) = 3; pass(2); count(3) = 5; move(0, 0) = 3; count(10) = 3; count(2) = 1");
        Sentences.quote(12, "the number of days, 1 to 999");
        begin("pass(1) = 1; pass(999) = 1000; pass(0) = OUTSIDE; pass(1000) = OUTSIDE; count(3) = 1000");
        Sentences.quote(12, "Returns the new day");
        Story days = Story.begin();
        for (int k = 1; k <= 400; k++) {
            days.due(999 * k, "pass", 999);
        }
        days.go("undo(); pass(1) = 398602");
        Sentences.quote(12, "OUTSIDE if n is out of range");
        begin("pass(0) = OUTSIDE; pass(1000) = OUTSIDE; pass(-1) = OUTSIDE; pass(MIN) = OUTSIDE; pass(MAX) = OUTSIDE; count(3) = 0; count(10) = 0");
    }

    private static void undo() {
        Sentences.quote(13, "Undoes the latest successful call of series, room, lay, take, shift, stow or pass that has not been undone");
        begin("pass(1); pass(2); pass(4); undo() = 2; count(3) = 3; undo() = 1; count(3) = 1; pass(8) = 9; undo() = 1; count(3) = 1; undo() = 0; "
                + "count(3) = 0; undo() = NOT");
        begin("pass(1); room(8, 1) = UNKNOWN; lay(0, 1, 1) = FULL; pass(0) = OUTSIDE; undo() = 0; count(3) = 0");
        begin("room(0, 0) = 0; undo() = 0; take(1, 1) = 0; count(2) = 1; undo() = 0; count(2) = 0; shift(0, 1) = 0; undo() = 0; room(0, 5); "
                + "room(0, 5) = 5; undo() = 1; box(0, 0) = 5; lay(0, 1, 1); lay(0, 1, 1) = 0; undo() = 2; where(1) = 0; count(2) = 1; "
                + "series(NONE, 1, 1); stow(0) = 0; undo() = 3; undo() = 2; count(0) = 0; where(1) = 0");
        begin("pass(1); row(0, 1, 1); clear(); label(0); 'al'; erase(); fault(); where(1) = NONE; undo() = 0; count(3) = 0; undo() = NOT");
        Sentences.quote(13, "the list and the paper stay");
        begin("room(0, 5); lay(0, 1, 2); row(0, 1, 9); label(0) = 5; 'all'; undo() = 1; count(4) = 1; listed(0, *) = 0 1 9 0 0 NONE; count(11) = 3; "
                + "undo() = 0; count(4) = 1").page("x:1-2");
        begin("row(0, 1, 9); pass(1); clear(); undo() = 0; count(4) = 0; pass(1); row(3, 1, 2); undo() = 0; count(4) = 1; listed(0, 0) = 3");
    }

    /** Each of the seven calls alone, on an archive of which all can be seen: after undo it is as it was before the call. */
    private static void undoOfEachCall() {
        Sentences.quote(13, "Undoes the latest successful call of series, room, lay, take, shift, stow or pass that has not been undone");
        String scene = "pass(1); series(NONE, 1, 30); room(0, 20); room(1, 20); lay(0, 5, 9); lay(1, 11, 12); row(0, 1, 5); label(0); ";
        String[] calls = {"series(0, 3, 4) = 1", "room(2, 7) = 0", "room(0, 5) = 20", "lay(1, 7, 13) = 5", "take(6, 6) = 1", "shift(0, 1) = 1",
            "stow(0) = 3", "pass(999) = 1000"};
        for (String call : calls) {
            begin(scene).still(call + "; undo() = 6");
        }
        begin(scene).still("lay(1, 7, 13); undo() = 6; take(1, TOP); undo() = 6; stow(0); undo() = 6; shift(1, 0); undo() = 6");
    }

    private static void undoLimit() {
        Sentences.quote(13, "At most the latest 8 such calls can be undone");
        Story nine = Story.begin();
        for (int k = 1; k <= 9; k++) {
            nine.due(k, "pass", 1).due(Math.min(k, 8), "count", 10);
        }
        for (int k = 7; k >= 0; k--) {
            nine.due(k, "undo").due(k + 1, "count", 3).due(k, "count", 10);
        }
        nine.go("undo() = NOT; count(3) = 1; pass(5) = 6; count(10) = 1; undo() = 0; count(3) = 1; undo() = NOT");
        Story wide = Story.begin();
        for (int k = 1; k <= 30; k++) {
            wide.due(k - 1, "room", 3, k);
        }
        wide.go("undo() = 7; undo() = 6; room(3, 99) = 28; count(10) = 7; undo() = 6; box(3, 0) = 28; room(3, 40); room(3, 41); room(3, 42); "
                + "count(10) = 8; undo() = 7; undo() = 6; undo() = 5; undo() = 4; undo() = 3; box(3, 0) = 26");
        Sentences.quote(13, "Returns the number of calls that can still be undone");
        begin("pass(1); undo() = 0; pass(1); pass(1); undo() = 1; pass(1); pass(1); undo() = 2; undo() = 1; undo() = 0");
        Sentences.quote(13, "NOT if there is none");
        begin("undo() = NOT; count(10) = 0; row(0, 1, 1); undo() = NOT; lay(0, 1, 1) = FULL; undo() = NOT; pass(1); undo() = 0; undo() = NOT; "
                + "undo() = NOT");
    }
}
