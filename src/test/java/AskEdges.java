/** The questions about series, boxes, pieces, gaps, sheets and moves: promises 14 to 22. */
final class AskEdges {
    private AskEdges() { }

    static void all() {
        of();
        ofBoxesAndGaps();
        box();
        boxSheets();
        piece();
        gap();
        home();
        where();
        was();
        move();
        trail();
        trailRefused();
    }

    private static Story begin(String calls) {
        return Story.begin(calls);
    }

    private static final String SERIES = "series(NONE, 11, 100); series(NONE, 1, 10); series(0, 11, 20); series(0, 31, 40); series(3, 33, 34); "
            + "room(0, 9); room(7, 50); lay(0, 9, 12); lay(7, 40, 41); lay(7, 100, 102); ";

    private static void of() {
        Sentences.quote(14, "Returns a property of a series");
        begin(SERIES).still("of(0, *) = NONE 11 100 70 12 129 85 2");
        begin(SERIES + "of(1, *) = NONE 1 10 10 0 1 8 1; of(2, *) = 0 11 20 10 0 1 8 1; of(3, *) = 0 31 40 8 16 128 9 1; "
                + "of(4, *) = 3 33 34 2 0 0 2 1");
        Sentences.quote(14, "number of the series");
        Story ten = Story.begin();
        for (int k = 0; k < 10; k++) {
            ten.due(k, "series", -1, k + 1, k + 1);
        }
        ten.go("of(0, 1) = 1; of(9, 1) = 10; of(10, 1) = UNKNOWN");
        Sentences.quote(14, "0: its parent (NONE if it has none)");
        begin(SERIES + "of(0, 0) = NONE; of(1, 0) = NONE; of(2, 0) = 0; of(3, 0) = 0; of(4, 0) = 3");
        Sentences.quote(14, "1: the first sheet of its range");
        begin("series(NONE, 1, 1); series(NONE, TOP, TOP); of(0, 1) = 1; of(1, 1) = TOP");
        Sentences.quote(14, "2: the last one");
        begin("series(NONE, 1, 1); series(NONE, 2, TOP); of(0, 2) = 1; of(1, 2) = TOP");
        Sentences.quote(14, "3: the number of its own sheets");
        begin("series(NONE, 1, TOP); of(0, 3) = TOP; series(0, 1, 1); of(0, 3) = TOP-1; series(0, 2, TOP-1); of(0, 3) = 1; series(0, TOP, TOP); "
                + "of(0, 3) = 0; of(2, 3) = TOP-2; series(2, 2, TOP-1); of(2, 3) = 0; of(0, 3) = 0");
        Sentences.quote(14, "4: the set of its children");
        begin("series(NONE, 1, 9); of(0, 4) = 0; series(NONE, 11, 19); series(0, 1, 1); series(1, 11, 11); series(0, 2, 2); of(0, 4) = 20; "
                + "of(1, 4) = 8; of(2, 4) = 0; series(4, 2, 2); of(0, 4) = 20; of(4, 4) = 32");
        Sentences.quote(14, "Returns the property");
        begin("series(NONE, 7, 8); of(0, *) = NONE 7 8 2 0 0 2 1");
        Sentences.quote(14, "UNKNOWN if there is no such series");
        begin("of(0, 0) = UNKNOWN; of(-1, 0) = UNKNOWN; of(-100, 0) = UNKNOWN; of(MIN, 0) = UNKNOWN; of(MAX, 0) = UNKNOWN; series(NONE, 1, 1); "
                + "of(1, 0) = UNKNOWN; of(0, 0) = NONE; undo(); of(0, 0) = UNKNOWN");
        Sentences.quote(14, "OUTSIDE if what is out of range");
        begin("series(NONE, 1, 1); of(0, -1) = OUTSIDE; of(0, 8) = OUTSIDE; of(0, MIN) = OUTSIDE; of(0, MAX) = OUTSIDE; of(0, 7) = 1");
    }

    private static void ofBoxesAndGaps() {
        Sentences.quote(14, "5: the set of the boxes in which sheets of its range are");
        begin("series(NONE, 10, 20); room(0, 99); room(3, 99); room(7, 99); lay(0, 5, 9); lay(7, 21, 25); of(0, 5) = 0; lay(7, 20, 20); "
                + "of(0, 5) = 128; lay(0, 10, 10); of(0, 5) = 129; lay(3, 1, 30); of(0, 5) = 8; series(0, 12, 12); of(1, 5) = 8; take(1, 30); "
                + "of(0, 5) = 0");
        Sentences.quote(14, "6: the number of sheets of its range that are in no box");
        begin("series(NONE, 10, 20); of(0, 6) = 11; room(0, 99); room(1, 99); lay(0, 1, 9); lay(0, 21, 22); of(0, 6) = 11; lay(0, 10, 10); "
                + "lay(1, 20, 20); of(0, 6) = 9; lay(1, 1, 15); of(0, 6) = 4; lay(0, 1, 30); of(0, 6) = 0; take(12, 13); of(0, 6) = 2");
        begin("series(NONE, 1, TOP); of(0, 6) = TOP; room(0, TOP); lay(0, 1, TOP); of(0, 6) = 0; take(1, 1); of(0, 6) = 1");
        Sentences.quote(14, "7: the number of its gaps");
        begin("series(NONE, 10, 20); of(0, 7) = 1; room(0, 99); lay(0, 10, 10); of(0, 7) = 1; lay(0, 20, 20); of(0, 7) = 1; lay(0, 15, 15); "
                + "of(0, 7) = 2; lay(0, 13, 13); of(0, 7) = 3; lay(0, 14, 14); of(0, 7) = 2; lay(0, 10, 20); of(0, 7) = 0");
        Story.pieces(40).go("series(NONE, 10, 400); of(0, 7) = 39; series(NONE, 401, TOP); of(1, 7) = 1; series(0, 20, 20); of(2, 7) = 0");
        Story.pieces(40).go("series(NONE, 1, 401); of(0, 7) = 41");
    }

    private static void box() {
        String boxes = "series(NONE, 1, 50); series(0, 10, 20); room(3, 40); lay(3, 15, 16); lay(3, 60, 61); lay(3, 30, 30); room(0, 1); lay(0, 29, 29); ";
        Sentences.quote(15, "Returns a property of a box");
        begin(boxes).still("box(3, *) = 40 5 3 3 15 61; box(0, *) = 1 1 1 1 29 29; box(7, *) = 0 0 0 0 NONE NONE");
        Sentences.quote(15, "number of the box");
        begin("room(0, 5); room(7, 9); box(0, 0) = 5; box(1, 0) = 0; box(6, 0) = 0; box(7, 0) = 9; box(8, 0) = UNKNOWN");
        Sentences.quote(15, "0: room");
        begin("box(0, 0) = 0; room(0, TOP); box(0, 0) = TOP; undo(); box(0, 0) = 0");
        Sentences.quote(15, "1: load");
        begin("box(0, 1) = 0; room(0, TOP); lay(0, 5, 5); box(0, 1) = 1; lay(0, 1, TOP); box(0, 1) = TOP; take(2, TOP); box(0, 1) = 1; take(1, 1); "
                + "box(0, 1) = 0");
        Sentences.quote(15, "2: number of pieces in it");
        begin("room(0, 9); room(1, 9); box(0, 2) = 0; lay(0, 1, 5); box(0, 2) = 1; lay(1, 3, 3); box(0, 2) = 2; box(1, 2) = 1; lay(1, 7, 7); "
                + "box(1, 2) = 2; lay(0, 3, 3); box(0, 2) = 1; box(1, 2) = 1; box(2, 2) = 0");
        Story.pieces(40).go("box(0, 2) = 40; box(1, 2) = 0");
        Sentences.quote(15, "Returns the property");
        begin("room(5, 9); lay(5, 2, 3); box(5, *) = 9 2 1 0 2 3");
        Sentences.quote(15, "UNKNOWN if there is no such box");
        begin("box(8, 0) = UNKNOWN; box(-1, 0) = UNKNOWN; box(-100, 1) = UNKNOWN; box(MIN, 5) = UNKNOWN; box(MAX, 5) = UNKNOWN");
        Sentences.quote(15, "OUTSIDE if what is out of range");
        begin("box(0, -1) = OUTSIDE; box(0, 6) = OUTSIDE; box(7, MIN) = OUTSIDE; box(7, MAX) = OUTSIDE; box(7, 5) = NONE");
    }

    private static void boxSheets() {
        Sentences.quote(15, "3: the set of the series of which own sheets are in it");
        begin("series(NONE, 10, 30); series(0, 15, 20); series(1, 17, 18); room(0, 99); box(0, 3) = 0; lay(0, 1, 9); lay(0, 31, 40); box(0, 3) = 0; "
                + "lay(0, 17, 18); box(0, 3) = 4; lay(0, 16, 16); box(0, 3) = 6; lay(0, 14, 14); box(0, 3) = 7; lay(0, 30, 30); take(14, 14); "
                + "box(0, 3) = 7; take(30, 30); box(0, 3) = 6; take(17, 17); box(0, 3) = 6; take(18, 18); box(0, 3) = 2");
        begin("series(NONE, 10, 30); series(0, 10, 30); room(0, 99); lay(0, 1, 40); box(0, 3) = 2");
        Sentences.quote(15, "4: its lowest sheet (NONE if it is empty)");
        begin("box(0, 4) = NONE; room(0, 9); room(1, 9); lay(0, TOP, TOP); box(0, 4) = TOP; lay(0, 1, 2); box(0, 4) = 1; lay(1, 1, 1); box(0, 4) = 2; "
                + "take(2, 2); box(0, 4) = TOP; box(1, 4) = 1; take(1, TOP); box(0, 4) = NONE");
        Sentences.quote(15, "5: its highest sheet (NONE if it is empty)");
        begin("box(0, 5) = NONE; room(0, 9); room(1, 9); lay(0, 1, 1); box(0, 5) = 1; lay(0, TOP-1, TOP); box(0, 5) = TOP; lay(1, TOP, TOP); "
                + "box(0, 5) = TOP-1; take(TOP-1, TOP-1); box(0, 5) = 1; box(1, 5) = TOP; take(1, TOP); box(1, 5) = NONE");
    }

    private static void piece() {
        String pieces = "room(0, 40); room(7, 40); lay(7, 15, 16); lay(0, 5, 6); lay(0, 17, 17); lay(7, 7, 7); lay(0, 18, 20); ";
        Sentences.quote(16, "Returns a property of a piece");
        begin(pieces).still("piece(0, *) = 5 6 0; piece(1, *) = 7 7 7; piece(2, *) = 15 16 7; piece(3, *) = 17 20 0");
        Sentences.quote(16, "number of the piece");
        begin(pieces + "piece(0, 0) = 5; piece(3, 0) = 17; piece(4, 0) = UNKNOWN");
        Story.pieces(40).go("piece(39, 0) = 400; piece(40, 0) = UNKNOWN");
        Sentences.quote(16, "0: its first sheet");
        begin("room(0, 9); lay(0, 1, 2); lay(0, TOP, TOP); piece(0, 0) = 1; piece(1, 0) = TOP; take(1, 1); piece(0, 0) = 2");
        Sentences.quote(16, "1: its last sheet");
        begin("room(0, 9); lay(0, 1, 2); lay(0, TOP, TOP); piece(0, 1) = 2; piece(1, 1) = TOP; take(2, 2); piece(0, 1) = 1");
        Sentences.quote(16, "2: its box");
        begin("room(0, 9); room(7, 9); lay(7, 1, 2); lay(0, 3, 3); piece(0, 2) = 7; piece(1, 2) = 0");
        Sentences.quote(16, "Returns the property");
        begin("room(7, 9); lay(7, 1, 2); piece(0, *) = 1 2 7");
        Sentences.quote(16, "UNKNOWN if there is no such piece");
        begin("piece(0, 0) = UNKNOWN; room(0, 9); lay(0, 1, 1); piece(0, 0) = 1; piece(1, 0) = UNKNOWN; piece(-1, 0) = UNKNOWN; "
                + "piece(MIN, 0) = UNKNOWN; piece(MAX, 0) = UNKNOWN; take(1, 1); piece(0, 0) = UNKNOWN");
        Sentences.quote(16, "OUTSIDE if what is out of range");
        begin("room(0, 9); lay(0, 1, 1); piece(0, -1) = OUTSIDE; piece(0, 3) = OUTSIDE; piece(0, MIN) = OUTSIDE; piece(0, MAX) = OUTSIDE");
    }

    private static void gap() {
        String gaps = "series(NONE, 5, 20); room(0, 40); room(1, 40); lay(0, 1, 6); lay(0, 9, 10); lay(1, 11, 11); lay(1, 15, 15); ";
        Sentences.quote(17, "Returns an end of a gap of a series");
        begin(gaps).still("gap(0, 0, *) = 7 8; gap(0, 1, *) = 12 14; gap(0, 2, *) = 16 20");
        Sentences.quote(17, "number of the series");
        begin(gaps + "series(0, 7, 12); gap(0, 1, *) = 12 14; gap(1, 1, *) = 12 12; gap(1, 0, *) = 7 8");
        Sentences.quote(17, "number of the gap");
        begin(gaps + "gap(0, 0, 0) = 7; gap(0, 2, 0) = 16; gap(0, 3, 0) = UNKNOWN");
        Sentences.quote(17, "0: its first sheet");
        begin("series(NONE, 1, TOP); gap(0, 0, 0) = 1; room(0, TOP); lay(0, 1, TOP-1); gap(0, 0, 0) = TOP; take(1, 1); gap(0, 0, 0) = 1; "
                + "gap(0, 1, 0) = TOP");
        Sentences.quote(17, "1: its last sheet");
        begin("series(NONE, 1, TOP); gap(0, 0, 1) = TOP; room(0, TOP); lay(0, 2, TOP); gap(0, 0, 1) = 1; take(TOP, TOP); gap(0, 1, 1) = TOP");
        Sentences.quote(17, "Returns the sheet");
        begin("series(NONE, 5, 9); gap(0, 0, *) = 5 9");
        Sentences.quote(17, "UNKNOWN if there is no such series or gap");
        begin("gap(0, 0, 0) = UNKNOWN; gap(-1, 0, 0) = UNKNOWN; gap(MIN, 0, 0) = UNKNOWN; gap(MAX, 0, 0) = UNKNOWN; series(NONE, 1, 2); "
                + "gap(1, 0, 0) = UNKNOWN; gap(0, 1, 0) = UNKNOWN; gap(0, -1, 0) = UNKNOWN; gap(0, MIN, 0) = UNKNOWN; gap(0, MAX, 0) = UNKNOWN; "
                + "gap(0, 0, 0) = 1; room(0, 2); lay(0, 1, 2); gap(0, 0, 0) = UNKNOWN");
        Sentences.quote(17, "OUTSIDE if what is neither 0 nor 1");
        begin("series(NONE, 1, 2); gap(0, 0, 2) = OUTSIDE; gap(0, 0, -1) = OUTSIDE; gap(0, 0, MIN) = OUTSIDE; gap(0, 0, MAX) = OUTSIDE");
    }

    private static void home() {
        String homes = "series(NONE, 10, 20); series(0, 12, 18); series(1, 14, 15); series(0, 20, 20); series(NONE, 1, 3); ";
        Sentences.quote(18, "Returns the home of a sheet");
        begin(homes).still("home(1) = 4; home(3) = 4; home(4) = NONE; home(9) = NONE; home(10) = 0; home(11) = 0; home(12) = 1; home(13) = 1; "
                + "home(14) = 2; home(15) = 2; home(16) = 1; home(18) = 1; home(19) = 0; home(20) = 3; home(21) = NONE");
        Sentences.quote(18, "the sheet, 1 to 2000000000");
        begin("series(NONE, 1, TOP); home(1) = 0; home(TOP) = 0; home(0) = OUTSIDE; home(TOP+1) = OUTSIDE");
        Sentences.quote(18, "Returns the number of the series");
        begin("series(NONE, 5, 9); series(0, 5, 9); series(1, 5, 8); home(5) = 2; home(8) = 2; home(9) = 1; undo(); home(5) = 1; undo(); home(5) = 0");
        Sentences.quote(18, "NONE if there is none");
        begin("home(5) = NONE; series(NONE, 5, 9); home(5) = 0; home(4) = NONE; home(10) = NONE; undo(); home(5) = NONE");
        Sentences.quote(18, "OUTSIDE if sheet is out of range");
        begin("series(NONE, 1, TOP); home(0) = OUTSIDE; home(-1) = OUTSIDE; home(TOP+1) = OUTSIDE; home(MIN) = OUTSIDE; home(MAX) = OUTSIDE");
    }

    private static void where() {
        Sentences.quote(19, "Returns where a sheet is");
        begin("room(0, 5); room(7, 5); lay(0, 3, 5); lay(7, 5, 6); take(4, 4)")
                .still("where(2) = NONE; where(3) = 0; where(4) = NONE; where(5) = 7; where(6) = 7; where(7) = NONE");
        Sentences.quote(19, "the sheet, 1 to 2000000000");
        begin("room(0, TOP); lay(0, 1, TOP); where(1) = 0; where(TOP) = 0; where(0) = OUTSIDE; where(TOP+1) = OUTSIDE");
        Sentences.quote(19, "Returns the number of the box");
        begin("room(7, 5); room(0, 5); lay(7, 1, 1); where(1) = 7; shift(7, 0); where(1) = 0; undo(); where(1) = 7");
        Sentences.quote(19, "NONE if it is in none");
        begin("where(5) = NONE; room(0, 5); lay(0, 5, 5); where(4) = NONE; where(6) = NONE; take(5, 5); where(5) = NONE");
        Sentences.quote(19, "OUTSIDE if sheet is out of range");
        begin("where(0) = OUTSIDE; where(-1) = OUTSIDE; where(TOP+1) = OUTSIDE; where(MIN) = OUTSIDE; where(MAX) = OUTSIDE");
    }

    private static void was() {
        String past = "room(0, 5); room(1, 5); pass(2); lay(0, 1, 3); lay(1, 2, 2); pass(3); take(1, 1); pass(1); lay(1, 1, 1); pass(4); ";
        Sentences.quote(20, "Returns where a sheet was at the end of a day");
        begin(past).still("was(1, *) = NONE NONE 0 0 0 NONE 1 1 1 1 1; was(2, *) = NONE NONE 1 1 1 1; was(3, 2) = 0; was(4, 9) = NONE");
        Sentences.quote(20, "the sheet, 1 to 2000000000");
        begin("room(0, TOP); lay(0, 1, TOP); was(1, 0) = 0; was(TOP, 0) = 0; was(0, 0) = OUTSIDE; was(TOP+1, 0) = OUTSIDE");
        Sentences.quote(20, "the day, 0 or more (after the present day: where it is now)");
        begin(past + "was(1, 0) = NONE; was(1, -1) = OUTSIDE; was(1, 10) = 1; was(1, 11) = 1; was(1, MAX) = 1; take(1, 1); was(1, 9) = 1; "
                + "was(1, 10) = NONE; was(1, 11) = NONE; was(1, MAX) = NONE; where(1) = NONE");
        Sentences.quote(20, "Returns the number of the box after all moves up to this day");
        begin("room(0, 9); room(7, 9); lay(0, 5, 5); lay(7, 5, 5); was(5, 0) = 7; pass(1); shift(7, 0); take(6, 9); was(5, 0) = 7; was(5, 1) = 0; "
                + "undo(); undo(); was(5, 1) = 7");
        Sentences.quote(20, "NONE if it was in none");
        begin("room(0, 9); pass(5); lay(0, 5, 5); pass(5); take(5, 5); was(5, 4) = NONE; was(5, 5) = 0; was(5, 9) = 0; was(5, 10) = NONE; "
                + "was(4, 5) = NONE; was(6, 5) = NONE");
        Sentences.quote(20, "OUTSIDE if sheet or day is out of range");
        begin("was(0, 0) = OUTSIDE; was(-1, 0) = OUTSIDE; was(TOP+1, 0) = OUTSIDE; was(MIN, 0) = OUTSIDE; was(MAX, 0) = OUTSIDE; was(1, -1) = OUTSIDE; "
                + "was(1, MIN) = OUTSIDE; was(0, -1) = OUTSIDE; was(1, 0) = NONE");
    }

    private static void move() {
        String moves = "room(4, 9); room(0, 9); lay(4, 1, 3); pass(6); take(2, 9); shift(4, 0); ";
        Sentences.quote(21, "Returns a property of a move");
        begin(moves).still("move(0, *) = 0 1 3 4; move(1, *) = 6 2 9 NONE; move(2, *) = 6 1 1 0");
        Sentences.quote(21, "number of the move");
        begin(moves + "move(0, 2) = 3; move(2, 2) = 1; move(3, 2) = UNKNOWN");
        Story.moves(100).go("move(99, 1) = TOP; move(100, 1) = UNKNOWN");
        Sentences.quote(21, "0: its day");
        begin("take(1, 1); pass(999); take(1, 1); pass(999); take(1, 1); move(0, 0) = 0; move(1, 0) = 999; move(2, 0) = 1998");
        Sentences.quote(21, "1: the first sheet of its range");
        begin("take(1, TOP); take(TOP, TOP); move(0, 1) = 1; move(1, 1) = TOP");
        Sentences.quote(21, "2: the last one");
        begin("take(1, TOP); take(1, 1); move(0, 2) = TOP; move(1, 2) = 1");
        Sentences.quote(21, "3: its box (NONE if it took the sheets out)");
        begin("room(0, 9); room(7, 9); lay(0, 1, 1); lay(7, 1, 1); take(1, 1); take(1, 1); move(0, 3) = 0; move(1, 3) = 7; move(2, 3) = NONE; "
                + "move(3, 3) = NONE");
        Sentences.quote(21, "Returns the property");
        begin("room(7, 9); pass(2); lay(7, 5, 6); move(0, *) = 2 5 6 7");
        Sentences.quote(21, "UNKNOWN if there is no such move");
        begin("move(0, 0) = UNKNOWN; take(1, 1); move(0, 0) = 0; move(1, 0) = UNKNOWN; move(-1, 0) = UNKNOWN; move(MIN, 0) = UNKNOWN; "
                + "move(MAX, 0) = UNKNOWN; lay(0, 1, 1) = FULL; move(1, 0) = UNKNOWN; undo(); move(0, 0) = UNKNOWN");
        Sentences.quote(21, "OUTSIDE if what is out of range");
        begin("take(1, 1); move(0, -1) = OUTSIDE; move(0, 4) = OUTSIDE; move(0, MIN) = OUTSIDE; move(0, MAX) = OUTSIDE");
    }

    private static final String TRAIL = "room(0, 5); room(1, 5); take(1, 5); lay(0, 1, 3); lay(0, 2, 3); lay(1, 3, 3); take(3, 9); take(3, 3); "
            + "lay(1, 3, 3); lay(0, 4, 4); ";

    private static void trail() {
        Sentences.quote(22, "Returns by which moves a sheet came to another place: those after which it was in another box than before");
        begin(TRAIL).still("trail(3, NONE) = 4; trail(3, *) = 1 3 4 6 NONE; trail(2, NONE) = 1; trail(2, 0) = 1; trail(5, NONE) = 0");
        begin("room(0, 9); take(5, 5); trail(5, NONE) = 0; lay(0, 5, 5); trail(5, NONE) = 1; lay(0, 5, 5); trail(5, NONE) = 1; room(1, 9); "
                + "shift(0, 1); trail(5, NONE) = 2; take(5, 5); trail(5, NONE) = 3; take(5, 5); trail(5, NONE) = 3; trail(5, *) = 1 3 4 NONE; "
                + "trail(4, NONE) = 0; trail(6, NONE) = 0; undo(); undo(); trail(5, NONE) = 2");
        Sentences.quote(22, "the sheet, 1 to 2000000000");
        begin("room(0, TOP); lay(0, 1, TOP); trail(1, 0) = 0; trail(TOP, 0) = 0; trail(0, 0) = OUTSIDE; trail(TOP+1, 0) = OUTSIDE");
        Sentences.quote(22, "NONE for the number of these moves");
        begin(TRAIL + "trail(1, NONE) = 1; trail(3, NONE) = 4; trail(4, NONE) = 1; trail(9, NONE) = 0");
        Sentences.quote(22, "otherwise an index among them, from 0, in their order");
        begin(TRAIL + "trail(3, 0) = 1; trail(3, 1) = 3; trail(3, 2) = 4; trail(3, 3) = 6; trail(4, 0) = 7");
        Sentences.quote(22, "Returns the number of these moves, or the number of the move with this index");
        begin("trail(5, NONE) = 0; room(0, 1); lay(0, 5, 5); trail(5, NONE) = 1; trail(5, 0) = 0");
        Story there = Story.begin("room(0, 1)");
        for (int k = 0; k < 50; k++) {
            there.due(1, "lay", 0, 5, 5).due(1, "take", 5, 5);
        }
        there.go("trail(5, NONE) = 100; trail(5, 0) = 0; trail(5, 99) = 99; trail(5, 100) = NONE");
    }

    private static void trailRefused() {
        Sentences.quote(22, "NONE if there is no such index");
        begin("trail(5, 0) = NONE; trail(5, MAX) = NONE").go(TRAIL + "trail(3, 3) = 6; trail(3, 4) = NONE; trail(3, 8) = NONE; trail(5, 0) = NONE");
        Sentences.quote(22, "OUTSIDE if sheet is out of range or k is less than NONE");
        begin(TRAIL + "trail(0, NONE) = OUTSIDE; trail(-1, NONE) = OUTSIDE; trail(TOP+1, NONE) = OUTSIDE; trail(MIN, 0) = OUTSIDE; "
                + "trail(MAX, 0) = OUTSIDE; trail(3, -2) = OUTSIDE; trail(3, MIN) = OUTSIDE; trail(0, -2) = OUTSIDE");
    }
}
