/** The sentences of the Description about sheets, series, boxes, moves, gaps, the list, plans and labels, and errors. */
final class DescriptionEdges {
    private static final int NONE = BoxedPapers.NONE, UNKNOWN = BoxedPapers.UNKNOWN, OUTSIDE = BoxedPapers.OUTSIDE,
            NOT = BoxedPapers.NOT, FULL = BoxedPapers.FULL;

    private DescriptionEdges() { }

    static void all() {
        sheets();
        series();
        familyOfSeries();
        boxes();
        pieces();
        moves();
        gaps();
        list();
        sets();
        laying();
        planOrder();
        planChoices();
        planEnds();
        labelParts();
        labelLimits();
        errorCodes();
        errorOrderOfChanges();
        errorOrderAtLimits();
        errorOrderOfQuestions();
        noneOnlyWithoutError();
        refusedCallsOfRichArchive();
    }

    private static void about(String words) {
        Sentences.quote(0, words);
    }

    private static Story begin(String calls) {
        return Story.begin(calls);
    }

    private static void sheets() {
        about("Sheets have numbers from 1 to 2000000000");
        begin("room(0, 2); lay(0, 1, 1) = 1; lay(0, TOP, TOP) = 1; where(1) = 0; where(TOP) = 0; count(5) = 2");
        begin("where(0) = OUTSIDE; where(TOP+1) = OUTSIDE; where(-1) = OUTSIDE; where(MIN) = OUTSIDE; where(MAX) = OUTSIDE");
        begin("take(1, TOP) = 0; take(0, TOP) = OUTSIDE; take(1, TOP+1) = OUTSIDE");
        about("A range from a to b (a <= b) consists of all sheets from a to b");
        begin("room(0, 9); lay(0, 5, 5) = 1; where(4) = NONE; where(5) = 0; where(6) = NONE");
        begin("room(0, 9); lay(0, 5, 7) = 3; where(4) = NONE; where(5) = 0; where(6) = 0; where(7) = 0; where(8) = NONE");
        begin("room(0, 9); lay(0, 7, 6) = OUTSIDE; take(7, 6) = OUTSIDE; row(0, 7, 6) = OUTSIDE; series(NONE, 7, 6) = OUTSIDE");
        begin("room(0, TOP); lay(0, 1, TOP) = TOP; lay(0, TOP, 1) = OUTSIDE");
    }

    private static void series() {
        about("There are at most 10 series, numbered 0, 1, 2, ... in the order in which they were added");
        Story ten = Story.begin();
        for (int k = 0; k < 10; k++) {
            ten.due(k, "series", NONE, 100 - k, 100 - k);
        }
        ten.go("series(NONE, 5, 5) = FULL; series(9, 91, 91) = FULL; count(0) = 10; of(0, 1) = 100; of(9, 1) = 91");
        ten.go("undo(); series(8, 92, 92) = 9; series(9, 92, 92) = FULL");
        about("at first there are none");
        begin("count(0) = 0; of(0, 0) = UNKNOWN; series(0, 1, 1) = UNKNOWN; stow(0) = UNKNOWN; left(0) = UNKNOWN");
        begin("count(4) = 0; listed(0, 0) = UNKNOWN; clear() = 0");
        about("A series has a range, and a parent, which is a series that was added before, or none (NONE)");
        begin("series(0, 5, 9) = UNKNOWN; series(NONE, 5, 9) = 0; series(1, 5, 9) = UNKNOWN; series(0, 5, 9) = 1; "
                + "series(2, 6, 7) = UNKNOWN; series(1, 6, 7) = 2; series(-2, 6, 7) = UNKNOWN; series(MAX, 6, 7) = UNKNOWN; "
                + "of(0, 0) = NONE; of(1, 0) = 0; of(2, 0) = 1; of(2, 1) = 6; of(2, 2) = 7");
        about("Its range is within that of its parent");
        begin("series(NONE, 10, 20); series(0, 9, 15) = NOT; series(0, 15, 21) = NOT; series(0, 9, 21) = NOT; "
                + "series(0, 1, 9) = NOT; series(0, 21, 30) = NOT; series(0, 10, 20) = 1");
        begin("series(NONE, 10, 20); series(0, 10, 12) = 1; series(1, 12, 13) = NOT; series(1, 13, 20) = NOT; "
                + "series(1, 10, 10) = 2; series(1, 12, 12) = 3");
        begin("series(NONE, 1, TOP) = 0; series(0, TOP, TOP) = 1; series(0, 1, TOP-1) = 2");
        about("two series with the same parent (or without one) have no sheet in common");
        begin("series(NONE, 10, 20); series(NONE, 20, 30) = NOT; series(NONE, 1, 10) = NOT; series(NONE, 12, 13) = NOT; "
                + "series(NONE, 5, 40) = NOT; series(NONE, 10, 20) = NOT; series(NONE, 21, 21) = 1; series(NONE, 9, 9) = 2; "
                + "series(NONE, 8, 9) = NOT; series(NONE, 1, 8) = 3");
        begin("series(NONE, 1, 50); series(0, 12, 14) = 1; series(0, 14, 15) = NOT; series(0, 10, 12) = NOT; "
                + "series(0, 13, 13) = NOT; series(0, 11, 16) = NOT; series(0, 12, 14) = NOT; series(0, 15, 15) = 2; "
                + "series(0, 11, 11) = 3; series(1, 12, 14) = 4; series(1, 14, 14) = NOT; series(4, 14, 14) = 5");
    }

    private static void familyOfSeries() {
        String family = "series(NONE, 1, 50); series(0, 1, 20); series(1, 1, 10); series(0, 30, 40)";
        about("The children of a series are the series whose parent it is");
        begin(family).go("of(0, 4) = 10; of(1, 4) = 4; of(2, 4) = 0; of(3, 4) = 0; undo(); of(0, 4) = 2");
        about("The own sheets of a series are those of its range that are not in the range of one of its children");
        begin(family).go("of(0, 3) = 19; of(1, 3) = 10; of(2, 3) = 10; of(3, 3) = 11; series(2, 1, 10) = 4; of(2, 3) = 0; "
                + "of(4, 3) = 10; series(0, 21, 29); series(0, 41, 49); of(0, 3) = 1; series(0, 50, 50); of(0, 3) = 0");
        about("The home of a sheet is the series of which it is an own sheet");
        begin(family).go("home(1) = 2; home(10) = 2; home(11) = 1; home(20) = 1; home(21) = 0; home(29) = 0; home(30) = 3; "
                + "home(40) = 3; home(41) = 0; home(50) = 0; series(2, 1, 10) = 4; home(1) = 4; home(10) = 4");
        about("there may be none");
        begin("home(1) = NONE; home(TOP) = NONE; series(NONE, 5, 9); home(4) = NONE; home(5) = 0; home(9) = 0; home(10) = NONE");
    }

    private static void boxes() {
        about("There are eight boxes, 0 to 7, each with a capacity, called room, from 0 to 2000000000 (0 at first)");
        for (int box = 0; box < 8; box++) {
            Story.begin().due(0, "box", box, 0).due(FULL, "lay", box, 1, 1).due(OUTSIDE, "room", box, 2000000001)
                    .due(OUTSIDE, "room", box, -1).due(0, "room", box, 2000000000).due(2000000000, "lay", box, 1, 2000000000)
                    .due(0, "box", (box + 1) % 8, 0);
        }
        begin("room(8, 1) = UNKNOWN; room(-1, 1) = UNKNOWN; box(8, 0) = UNKNOWN; box(-1, 0) = UNKNOWN; label(8) = UNKNOWN");
        about("Each sheet is in one box, or in none (at first)");
        begin("where(1) = NONE; where(TOP) = NONE; count(5) = 0; count(7) = 0");
        begin("room(0, 1); room(1, 1); lay(0, 7, 7) = 1; lay(1, 7, 7) = 1; where(7) = 1; box(0, 1) = 0; box(1, 1) = 1; "
                + "count(5) = 1; take(7, 7) = 1; where(7) = NONE; box(1, 1) = 0");
        about("The load of a box is the number of sheets in it");
        begin("box(3, 1) = 0; room(3, TOP); lay(3, 1, TOP); box(3, 1) = TOP; take(1, 1); box(3, 1) = TOP-1; take(TOP, TOP); "
                + "take(9, 12); box(3, 1) = TOP-6; take(1, TOP); box(3, 1) = 0");
        about("what is free in it is room - load");
        begin("room(0, 10); lay(0, 1, 4); lay(0, 11, 17) = FULL; lay(0, 11, 16) = 6; lay(0, 20, 20) = FULL; room(0, 11); "
                + "lay(0, 20, 20) = 1; lay(0, 21, 21) = FULL; take(1, 1); lay(0, 21, 21) = 1");
    }

    private static void pieces() {
        about("A piece is a longest sequence of consecutive sheets that are in the same box");
        begin("count(1) = 0; piece(0, 0) = UNKNOWN; room(0, 20); room(1, 20); lay(0, 5, 6); lay(0, 7, 8); count(1) = 1; "
                + "piece(0, *) = 5 8 0; lay(0, 10, 10); count(1) = 2; piece(1, *) = 10 10 0; lay(1, 9, 9); count(1) = 3; "
                + "piece(1, *) = 9 9 1; lay(0, 9, 9); count(1) = 1; piece(0, *) = 5 10 0; lay(0, 3, 4); piece(0, *) = 3 10 0");
        begin("room(0, TOP); room(1, 9); lay(0, 1, TOP); piece(0, *) = 1 TOP 0; lay(1, 1, 1); lay(1, TOP, TOP); "
                + "piece(0, *) = 1 1 1; piece(1, *) = 2 TOP-1 0; piece(2, *) = TOP TOP 1; count(1) = 3");
        about("pieces are numbered from 0 in the order of their sheets");
        begin("room(0, 9); room(1, 9); room(7, 9); lay(1, 50, 51); lay(0, 5, 6); lay(7, 20, 20); piece(0, *) = 5 6 0; "
                + "piece(1, *) = 20 20 7; piece(2, *) = 50 51 1; piece(3, 0) = UNKNOWN; piece(-1, 0) = UNKNOWN");
        about("There are at most 40 pieces in all boxes together");
        Story forty = begin("room(0, 50); room(1, 50); room(2, 50)");
        for (int k = 1; k <= 40; k++) {
            forty.due(1, "lay", k % 2, 2 * k, 2 * k);
        }
        forty.go("count(1) = 40; box(0, 2) = 20; box(1, 2) = 20; lay(2, 100, 100) = FULL; lay(0, 100, 100) = FULL; "
                + "piece(39, 0) = 80; piece(40, 0) = UNKNOWN; lay(2, 80, 80) = 1; lay(2, 79, 79) = 1; count(1) = 40; "
                + "lay(1, 3, 3) = 1; lay(2, 5, 5) = FULL; take(2, 3); count(1) = 39; lay(2, 5, 5) = 1; count(1) = 40");
    }

    private static void moves() {
        about("The present day is 0 at first");
        begin("count(3) = 0; take(1, 1); move(0, 0) = 0; pass(1) = 1; take(1, 1); move(0, 0) = 0; move(1, 0) = 1");
        about("There are at most 100 moves, numbered from 0 in the order in which they were made");
        Story hundred = Story.begin();
        for (int k = 0; k < 100; k++) {
            hundred.due(0, "take", 500 - k, 500 - k);
        }
        hundred.go("count(2) = 100; move(0, 1) = 500; move(99, 1) = 401; move(100, 1) = UNKNOWN; move(-1, 1) = UNKNOWN; "
                + "take(1, 1) = FULL; undo(); take(7, 7) = 0; move(99, 1) = 7; take(1, 1) = FULL");
        about("A move has a day, a range, and the box into which it brought all sheets of the range, or NONE if it took");
        begin("room(7, 9); lay(7, 5, 8); move(0, *) = 0 5 8 7; pass(999); take(8, TOP); move(1, *) = 999 8 TOP NONE; "
                + "lay(7, 1, 1); move(2, *) = 999 1 1 7; move(3, 0) = UNKNOWN");
    }

    private static void gaps() {
        about("A gap of a series is a longest sequence of consecutive sheets of its range that are in no box");
        begin("series(NONE, 10, 20); of(0, 7) = 1; gap(0, 0, *) = 10 20; room(0, 99); room(1, 99); lay(0, 1, 9); lay(0, 21, 30); "
                + "gap(0, 0, *) = 10 20; lay(0, 10, 10); lay(0, 20, 20); gap(0, 0, *) = 11 19; lay(0, 14, 15); lay(1, 16, 16); "
                + "of(0, 7) = 2; gap(0, 0, *) = 11 13; gap(0, 1, *) = 17 19; lay(0, 11, 13); lay(1, 17, 18); of(0, 7) = 1; "
                + "gap(0, 0, *) = 19 19; lay(1, 19, 19); of(0, 7) = 0; gap(0, 0, 0) = UNKNOWN");
        begin("series(NONE, 10, 20); series(0, 12, 13); gap(0, 0, *) = 10 20; gap(1, 0, *) = 12 13; room(0, 99); lay(0, 13, 13); "
                + "gap(0, 0, *) = 10 12; gap(0, 1, *) = 14 20; gap(1, 0, *) = 12 12; gap(1, 1, 0) = UNKNOWN");
        begin("series(NONE, 1, TOP); gap(0, 0, *) = 1 TOP; room(0, 9); lay(0, 1, 1); lay(0, TOP, TOP); gap(0, 0, *) = 2 TOP-1");
        about("the gaps of a series are numbered from 0 in the order of their sheets");
        begin("series(NONE, 1, 30); room(0, 9); lay(0, 20, 20); lay(0, 10, 10); gap(0, 0, 0) = 1; gap(0, 1, 0) = 11; "
                + "gap(0, 2, 0) = 21; gap(0, 3, 0) = UNKNOWN; gap(0, -1, 0) = UNKNOWN");
        Story.pieces(40).go("series(NONE, 1, TOP); of(0, 7) = 41; gap(0, 0, *) = 1 9; gap(0, 39, *) = 391 399; "
                + "gap(0, 40, *) = 401 TOP; gap(0, 41, 0) = UNKNOWN");
    }

    private static void list() {
        about("The list has at most 12 rows, numbered from 0");
        Story twelve = Story.begin();
        for (int k = 0; k < 12; k++) {
            twelve.due(k, "row", k % 8, k + 1, 20);
        }
        twelve.go("row(0, 1, 1) = FULL; count(4) = 12; listed(0, 1) = 1; listed(11, 1) = 12; listed(12, 1) = UNKNOWN; "
                + "clear() = 12; row(0, 1, 1) = 0");
        about("A row says that a range should be in a box");
        begin("row(7, 5, TOP) = 0; listed(0, *) = 7 5 TOP 0 0 NONE; where(5) = NONE; count(2) = 0; count(5) = 0; row(0, 1, 1) = 1; "
                + "listed(1, *) = 0 1 1 0 0 NONE");
        about("Two rows clash if they have a sheet in common, but different boxes");
        begin("row(0, 10, 15); row(1, 15, 19); listed(0, 5) = 1; listed(1, 5) = 0; count(8) = 1; row(2, 20, 22); listed(2, 5) = NONE; "
                + "row(0, 11, 12); listed(3, 5) = NONE; row(0, 10, 15); listed(4, 5) = 1; count(8) = 2; row(1, 21, 21); "
                + "listed(5, 5) = 2; listed(2, 5) = 5; row(3, 1, 9); listed(6, 5) = NONE; row(4, 1, 30); listed(7, 5) = 0; "
                + "count(8) = 10");
    }

    private static void sets() {
        about("Sets of series or boxes are ints in which bit k stands for number k");
        Story ten = begin("series(NONE, 1, 100); room(0, 9); room(7, 9)");
        for (int k = 1; k < 10; k++) {
            ten.due(k, "series", 0, k, k);
        }
        ten.go("of(0, 4) = 1022; of(9, 4) = 0; of(0, 5) = 0; lay(7, 9, 9); of(0, 5) = 128; of(9, 5) = 128; box(7, 3) = 512; "
                + "lay(0, 50, 50); of(0, 5) = 129; box(0, 3) = 1; lay(7, 51, 51); box(7, 3) = 513; box(6, 3) = 0");
    }

    private static void laying() {
        about("When a range is laid into a box, all its sheets are in this box after that, wherever they were before");
        begin("room(0, 20); room(1, 20); room(2, 20); lay(0, 1, 3); lay(1, 4, 6); lay(2, 8, 8); lay(2, 2, 9) = 7; where(1) = 0; "
                + "where(2) = 2; where(4) = 2; where(7) = 2; where(9) = 2; where(10) = NONE; box(0, 1) = 1; box(1, 1) = 0; box(2, 1) = 8");
        about("This is not possible if the load of the box would be greater than its room, if there would be more than 40");
        begin("room(0, 5); lay(0, 1, 6) = FULL; lay(0, 1, 5) = 5; lay(0, 1, 5) = 0; lay(0, 2, 6) = FULL; lay(0, 6, 6) = FULL");
        begin("room(0, 5); room(1, 5); lay(1, 1, 3); lay(0, 1, 6) = FULL; lay(0, 1, 5) = 5; lay(1, 5, 9) = 5; lay(0, 5, 6) = FULL; "
                + "lay(0, 5, 5) = 1");
        begin("room(0, TOP-1); lay(0, 1, TOP) = FULL; lay(0, 2, TOP) = TOP-1; lay(0, 1, TOP) = FULL");
        Story.pieces(40).go("room(1, 9); lay(1, 5, 5) = FULL; lay(1, 401, 401) = FULL; lay(1, 10, 10) = 1; lay(0, 11, 19) = 9; "
                + "count(1) = 40; lay(0, 5, 5) = FULL; lay(0, 10, 10) = 1; count(1) = 39; lay(1, 15, 15) = FULL; lay(1, 20, 20) = 1");
        Story.moves(99).go("room(0, 5); lay(0, 1, 2) = 2; lay(0, 1, 2) = FULL; lay(0, 3, 3) = FULL");
    }

    private static void planOrder() {
        about("The plan of a series tells where its gaps would be laid");
        begin("series(NONE, 5, 9); room(3, 9); plan(0, NONE, 0) = 1; plan(0, 0, *) = 5 9 3")
                .still("plan(0, NONE, 0) = 1; plan(0, 0, 2) = 3; left(0) = 0; plan(0, 1, 0) = NONE; where(5) = NONE");
        about("The gaps are considered in their order, and what is free in the boxes decreases accordingly");
        begin("series(NONE, 1, 30); room(7, 2); lay(7, 6, 6); lay(7, 12, 12); room(0, 10); room(1, 5); plan(0, NONE, 0) = 3; "
                + "plan(0, 0, *) = 1 5 1; plan(0, 1, *) = 7 11 0; plan(0, 2, *) = 13 17 0; left(0) = 13");
        begin("series(NONE, 1, 30); room(7, 1); lay(7, 21, 21); room(0, 10); plan(0, NONE, 0) = 1; plan(0, 0, *) = 1 10 0; left(0) = 19");
        about("The plan is the list of the resulting layings, numbered from 0 in this order, each with a range and a box");
        begin("series(NONE, 1, 9); room(7, 1); lay(7, 5, 5); room(2, 3); room(6, 4); plan(0, NONE, 0) = 2; plan(0, 0, *) = 1 4 6; "
                + "plan(0, 1, *) = 6 8 2; plan(0, 2, 0) = NONE; left(0) = 1");
    }

    private static void planChoices() {
        about("If there is a box in which at least as many sheets are free as the gap has, the whole gap goes into the one");
        begin("series(NONE, 1, 6); room(2, 7); room(5, 6); room(6, 6); room(1, 5); plan(0, NONE, 0) = 1; plan(0, 0, *) = 1 6 5; "
                + "room(5, 5); plan(0, 0, 2) = 6; room(6, 5); plan(0, 0, *) = 1 6 2; room(0, 7); plan(0, 0, 2) = 0; room(7, 6); "
                + "plan(0, 0, 2) = 7");
        begin("series(NONE, 1, TOP); room(0, TOP-1); room(7, TOP); plan(0, NONE, 0) = 1; plan(0, 0, *) = 1 TOP 7");
        begin("series(NONE, 1, 6); room(0, 9); lay(0, 11, 14); room(1, 8); lay(1, 21, 22); plan(0, NONE, 0) = 1; plan(0, 0, *) = 1 6 1");
        about("Otherwise, if something is free in any box, as many of the first sheets of the gap as are free go into the box");
        begin("series(NONE, 1, 20); room(0, 4); room(1, 5); room(4, 6); room(6, 6); plan(0, NONE, 0) = 4; plan(0, 0, *) = 1 6 4; "
                + "plan(0, 1, *) = 7 12 6; plan(0, 2, *) = 13 17 1; plan(0, 3, *) = 18 20 0; room(7, 3); plan(0, 3, *) = 18 20 7; "
                + "left(0) = 0");
        begin("series(NONE, 1, 9); room(7, 1); plan(0, NONE, 0) = 1; plan(0, 0, *) = 1 1 7; left(0) = 8");
        Story eight = begin("series(NONE, 1, 9)");
        for (int box = 0; box < 8; box++) {
            eight.due(0, "room", box, 1);
        }
        eight.go("plan(0, NONE, 0) = 8; plan(0, 0, *) = 1 1 0; plan(0, 7, *) = 8 8 7; plan(0, 8, 0) = NONE; left(0) = 1");
        eight.go("room(3, 2); plan(0, NONE, 0) = 8; plan(0, 0, *) = 1 2 3; plan(0, 7, *) = 9 9 7; left(0) = 0");
        about("If nothing is free in any box, the rest of the gap stays as it is");
        begin("series(NONE, 5, 9); plan(0, NONE, 0) = 0; plan(0, 0, 0) = NONE; left(0) = 5; room(0, 1); lay(0, 5, 5); plan(0, NONE, 0) = 0; "
                + "left(0) = 4; room(0, 2); plan(0, NONE, 0) = 1; plan(0, 0, *) = 6 6 0; left(0) = 3; stow(0) = 1; gap(0, 0, *) = 7 9");
    }

    private static void planEnds() {
        about("(The limits for pieces and moves do not matter for the plan.)");
        Story.moves(100).go("room(0, 3); series(NONE, 5, 9); plan(0, NONE, 0) = 1; plan(0, 0, *) = 5 7 0; left(0) = 2; stow(0) = FULL");
        Story.pieces(40).go("room(0, 40); room(1, TOP); series(NONE, 1, TOP); plan(0, NONE, 0) = 41; plan(0, 0, *) = 1 9 1; "
                + "plan(0, 40, *) = 401 TOP 1; left(0) = 0; stow(0) = FULL");
        Story.pieces(40).go("room(0, 41); room(1, 1); room(2, 1); room(3, 1); room(4, 1); room(5, 1); room(6, 1); room(7, 1000); "
                + "series(NONE, 1, 2000); plan(0, NONE, 0) = 48; plan(0, 39, *) = 391 399 7; plan(0, 40, *) = 401 1040 7; "
                + "plan(0, 41, *) = 1041 1041 0; plan(0, 47, *) = 1047 1047 6; plan(0, 48, 0) = NONE; left(0) = 953");
    }

    private static void labelParts() {
        about("For each series of which own sheets are in the box, in ascending order, and then for the sheets without a home");
        begin("series(NONE, 40, 60); series(NONE, 10, 30); series(1, 20, 29); room(2, 99); lay(2, 41, 41); label(2) = 4").page("0:41");
        begin("series(NONE, 40, 60); series(NONE, 10, 30); series(1, 20, 29); room(2, 99); lay(2, 5, 45); label(2) = 38")
                .page("0:40-45;1:10-19,30;2:20-29;x:5-9,31-39");
        begin("series(NONE, 10, 30); series(0, 20, 29); room(2, 99); lay(2, 20, 29); label(2) = 7").page("1:20-29");
        begin("room(2, 99); lay(2, 20, 29); label(2) = 7").page("x:20-29");
        Story ten = begin("room(2, 99); lay(2, 1, 30); series(NONE, 11, 20)");
        for (int k = 1; k < 10; k++) {
            ten.due(k, "series", 0, 20 - k, 20 - k);
        }
        ten.go("label(2) = 62").page("0:20;1:19;2:18;3:17;4:16;5:15;6:14;7:13;8:12;9:11;x:1-10,21-30");
        about("a colon");
        begin("room(0, 9); lay(0, 7, 7); label(0) = 3; paper(0) = 120; paper(1) = 58; paper(2) = 55; paper(3) = NONE");
        about("and these sheets, by longest sequences of consecutive ones, in ascending order, separated by commas");
        begin("room(0, 9); lay(0, 7, 8); lay(0, 9, 9); label(0) = 5").page("x:7-9");
        begin("room(0, 9); lay(0, 8, 8); lay(0, 5, 6); lay(0, 3, 3); label(0) = 9").page("x:3,5-6,8");
        begin("room(0, 9); room(1, 9); lay(0, 3, 7); lay(1, 5, 5); label(0) = 9; label(1) = 3; label(0) = 9").page("x:3-4,6-7");
        begin("series(NONE, 3, 9); series(0, 5, 5); series(0, 7, 7); room(0, 9); lay(0, 1, 9); label(0) = 25")
                .page("0:3-4,6,8-9;1:5;2:7;x:1-2");
        begin("series(NONE, 3, 9); series(0, 7, 7); series(0, 6, 6); series(0, 5, 5); room(0, 9); lay(0, 3, 9); label(0) = 21")
                .page("0:3-4,8-9;1:7;2:6;3:5");
        begin("room(0, TOP); lay(0, 1, TOP); label(0) = 14").page("x:1-2000000000");
        begin("room(0, 9); lay(0, TOP, TOP); lay(0, 100, 101); label(0) = 20").page("x:100-101,2000000000");
        about("These parts are separated by \";\"");
        begin("series(NONE, 1, 1); room(0, 9); lay(0, 1, 1); label(0) = 3").page("0:1");
        begin("series(NONE, 1, 1); room(0, 9); lay(0, 1, 2); label(0) = 7").page("0:1;x:2");
        begin("series(NONE, 1, 1); series(NONE, 2, 2); room(0, 9); lay(0, 1, 2); label(0) = 7").page("0:1;1:2");
        about("There are no blanks");
        begin("series(NONE, 1, 1); series(NONE, 3, 3); room(0, 9); lay(0, 1, 5); lay(0, 8, 8); label(0) = 17").page("0:1;1:3;x:2,4-5,8");
        about("the label of an empty box is empty");
        begin("label(0) = 0; count(9) = 0; room(0, 9); lay(0, 1, 1); label(1) = 0; label(0) = 3; label(7) = 0; count(9) = 0; paper(0) = NONE; "
                + "label(0) = 3; take(1, 1); count(9) = 3; label(0) = 0").page("");
    }

    /** Eighteen sheets of ten digits and "x:" make 200 characters less one: 2 + 18 * 10 + 17. */
    static Story longLabel() {
        Story story = begin("room(0, 99)");
        for (int k = 0; k < 18; k++) {
            story.due(1, "lay", 0, 1000000000 + 2 * k, 1000000000 + 2 * k);
        }
        return story.go("label(0) = 199");
    }

    private static void labelLimits() {
        about("There is a paper, which contains at most 200 characters");
        longLabel().go("take(1000000000, 1000000000); lay(0, 100000000, 100000000); label(0) = 198; lay(0, 5, 5); label(0) = 200; "
                + "count(9) = 200; paper(199) = 52; paper(200) = NONE; take(5, 5); lay(0, 15, 15); label(0) = FULL; count(9) = 200");
        longLabel().go("lay(0, 7, 7); label(0) = FULL; count(9) = 199; paper(2) = 49; paper(198) = 52; paper(199) = NONE");
        about("it is empty at first");
        begin("count(9) = 0; paper(0) = NONE; paper(199) = NONE");
    }

    private static void errorCodes() {
        about("The error codes are UNKNOWN (-2): there is no such series, box, piece, gap, move or row");
        begin("of(0, 0) = -2; box(8, 0) = -2; piece(0, 0) = -2; gap(0, 0, 0) = -2; move(0, 0) = -2; listed(0, 0) = -2; "
                + "series(NONE, 1, 1); room(0, 1); lay(0, 1, 1); gap(0, 0, 0) = -2").due(-2, "of", UNKNOWN, UNKNOWN);
        about("OUTSIDE (-3): another argument is out of its range");
        begin("type(256) = -3; pass(0) = -3; home(0) = -3; count(12) = -3; box(0, 6) = -3").due(OUTSIDE, "count", -1);
        about("NOT (-4): the call is not possible, as told");
        begin("undo() = -4; tell() = -4; series(NONE, 1, 1); series(NONE, 1, 1) = -4; room(0, 1); lay(0, 1, 1); room(0, 0) = -4")
                .due(NOT, "tell");
        about("FULL (-5): a limit would be exceeded");
        begin("lay(0, 1, 1) = -5").due(FULL, "lay", 0, 1, 1);
        about("NONE (-1) stands for \"there is none\"");
        begin("where(1) = -1; home(1) = -1; was(1, 0) = -1; paper(0) = -1; box(0, 4) = -1; trail(1, 0) = -1").due(NONE, "where", 1);
    }

    private static void errorOrderOfChanges() {
        about("If several apply to a call, the result is the one that the description of the method's result names first");
        begin("series(0, 0, 5) = UNKNOWN; series(-2, 6, 5) = UNKNOWN; series(NONE, 10, 20); series(NONE, 20, 19) = OUTSIDE; "
                + "series(0, 0, 15) = OUTSIDE; series(0, 15, TOP+1) = OUTSIDE; series(1, 5, 4) = UNKNOWN; series(1, 5, 6) = UNKNOWN");
        begin("room(1, 5); lay(1, 1, 5); room(8, -1) = UNKNOWN; room(-1, TOP+1) = UNKNOWN; room(1, -1) = OUTSIDE; room(1, MIN) = OUTSIDE");
        begin("lay(8, 0, 1) = UNKNOWN; lay(-1, 2, 1) = UNKNOWN; lay(8, 1, 1) = UNKNOWN; lay(0, 2, 1) = OUTSIDE; lay(0, 0, TOP) = OUTSIDE");
        begin("room(0, 5); lay(0, 1, 5); shift(0, 8) = UNKNOWN; shift(8, 0) = UNKNOWN; shift(0, 0) = UNKNOWN; shift(8, 8) = UNKNOWN; "
                + "shift(0, 1) = FULL");
        begin("row(8, 0, 1) = UNKNOWN; row(-1, 2, 1) = UNKNOWN");
    }

    private static void errorOrderAtLimits() {
        Story text = Story.begin().typed(" ".repeat(200));
        text.go("type(32) = FULL; type(256) = OUTSIDE; type(-1) = OUTSIDE");
        Story ten = Story.begin();
        for (int k = 0; k < 10; k++) {
            ten.due(k, "series", NONE, 10 * k + 1, 10 * k + 5);
        }
        ten.go("series(10, 1, 1) = UNKNOWN; series(10, 0, 1) = UNKNOWN; series(NONE, 0, 1) = OUTSIDE; series(0, 2, 1) = OUTSIDE; "
                + "series(NONE, 95, 95) = NOT; series(9, 90, 91) = NOT; series(9, 91, 91) = FULL; series(NONE, 96, 96) = FULL");
        Story.moves(100).go("room(0, 5); lay(8, 1, 1) = UNKNOWN; lay(8, 0, 1) = UNKNOWN; lay(0, 0, 1) = OUTSIDE; lay(0, 2, 1) = OUTSIDE; "
                + "take(0, 1) = OUTSIDE; take(2, 1) = OUTSIDE; take(1, TOP+1) = OUTSIDE; lay(0, 1, 1) = FULL; take(1, 1) = FULL; "
                + "stow(0) = UNKNOWN; stow(-1) = UNKNOWN");
        Story.moves(99).go("room(0, 5); lay(0, 1, 1); room(1, 9); shift(0, 8) = UNKNOWN; shift(0, 0) = UNKNOWN; shift(-1, 1) = UNKNOWN; "
                + "shift(0, 1) = FULL");
        Story twelve = Story.begin();
        for (int k = 0; k < 12; k++) {
            twelve.due(k, "row", 0, 1, 1);
        }
        twelve.go("row(8, 1, 1) = UNKNOWN; row(8, 0, 1) = UNKNOWN; row(0, 0, 1) = OUTSIDE; row(0, 2, 1) = OUTSIDE; row(0, 1, 1) = FULL");
    }

    private static void errorOrderOfQuestions() {
        begin("of(0, 8) = UNKNOWN; of(-1, -1) = UNKNOWN; box(8, 6) = UNKNOWN; box(-1, -1) = UNKNOWN; piece(0, 3) = UNKNOWN; "
                + "move(0, 4) = UNKNOWN; listed(0, 6) = UNKNOWN; gap(0, 0, 2) = UNKNOWN; plan(0, -2, 0) = UNKNOWN; plan(0, 0, 3) = UNKNOWN");
        begin("series(NONE, 1, 5); gap(0, 1, 2) = UNKNOWN; gap(0, -1, -1) = UNKNOWN; gap(1, 0, 2) = UNKNOWN; gap(0, 0, 2) = OUTSIDE; "
                + "plan(-1, -2, 3) = UNKNOWN; plan(0, -2, 3) = OUTSIDE; of(0, 8) = OUTSIDE");
        begin("room(0, 1); lay(0, 1, 1); piece(1, 3) = UNKNOWN; piece(0, 3) = OUTSIDE; move(1, 4) = UNKNOWN; move(0, 4) = OUTSIDE; "
                + "row(0, 1, 1); listed(1, 6) = UNKNOWN; listed(0, 6) = OUTSIDE; was(0, -1) = OUTSIDE; trail(0, -2) = OUTSIDE");
    }

    private static void noneOnlyWithoutError() {
        about("a method returns NONE only if no error applies");
        begin("series(NONE, 5, 9); plan(0, 0, 0) = NONE; plan(0, 0, 3) = OUTSIDE; plan(0, 0, -1) = OUTSIDE; plan(0, 99, MAX) = OUTSIDE; "
                + "plan(1, 0, 0) = UNKNOWN; plan(1, 99, 3) = UNKNOWN; plan(0, MAX, 2) = NONE; plan(0, MIN, 0) = OUTSIDE");
        begin("trail(1, 0) = NONE; trail(0, 0) = OUTSIDE; trail(TOP+1, MAX) = OUTSIDE; trail(1, -2) = OUTSIDE; home(1) = NONE; home(0) = OUTSIDE; "
                + "where(1) = NONE; where(0) = OUTSIDE; was(1, 0) = NONE; was(1, -1) = OUTSIDE; was(0, 0) = OUTSIDE");
        begin("box(0, 4) = NONE; box(8, 4) = UNKNOWN; box(0, 6) = OUTSIDE; row(0, 1, 1); listed(0, 5) = NONE; listed(1, 5) = UNKNOWN; "
                + "take(1, 1); move(0, 3) = NONE; move(1, 3) = UNKNOWN; move(0, 4) = OUTSIDE");
    }

    /** With undone calls, a list, a paper and a text that is without a fault: none of it may be touched by what is refused. */
    private static void refusedCallsOfRichArchive() {
        about("A call that returns an error changes nothing");
        Story rich = begin("pass(5); series(NONE, 1, 100); series(0, 20, 29); room(0, 50); room(1, 9); room(3, 8); lay(0, 15, 24); "
                + "lay(1, 60, 62); take(17, 17); pass(3); lay(1, 70, 70); pass(1); undo(); undo(); row(0, 1, 20); row(1, 20, 30); "
                + "label(0); 'pass 7;box 5 6'");
        rich.go("type(256) = OUTSIDE; type(-1) = OUTSIDE; series(2, 1, 1) = UNKNOWN; series(NONE, 0, 1) = OUTSIDE; "
                + "series(0, 29, 30) = NOT; series(1, 19, 20) = NOT; series(NONE, 100, 100) = NOT; room(8, 1) = UNKNOWN; "
                + "room(0, -1) = OUTSIDE; room(0, 8) = NOT; lay(8, 1, 1) = UNKNOWN; lay(0, 1, 0) = OUTSIDE; lay(0, 1, 61) = FULL; "
                + "take(0, 5) = OUTSIDE; shift(0, 0) = UNKNOWN; shift(0, 8) = UNKNOWN; shift(0, 3) = FULL; stow(2) = UNKNOWN; "
                + "pass(0) = OUTSIDE; pass(1000) = OUTSIDE; of(2, 0) = UNKNOWN; of(0, 8) = OUTSIDE; box(8, 0) = UNKNOWN; "
                + "box(0, 6) = OUTSIDE; piece(9, 0) = UNKNOWN; piece(0, 3) = OUTSIDE; gap(2, 0, 0) = UNKNOWN; gap(0, 9, 0) = UNKNOWN; "
                + "gap(0, 0, 2) = OUTSIDE; home(0) = OUTSIDE; where(0) = OUTSIDE; was(1, -1) = OUTSIDE; move(9, 0) = UNKNOWN; "
                + "move(0, 4) = OUTSIDE; trail(1, -2) = OUTSIDE; row(8, 1, 1) = UNKNOWN; row(0, 2, 1) = OUTSIDE; listed(2, 0) = UNKNOWN; "
                + "listed(0, 6) = OUTSIDE; unlisted(8) = UNKNOWN; label(8) = UNKNOWN; plan(2, 0, 0) = UNKNOWN; plan(0, -2, 0) = OUTSIDE; "
                + "left(2) = UNKNOWN; count(12) = OUTSIDE; type(59); tell() = NOT");
        Story.pieces(40).go("room(0, 40); room(1, 5); room(2, 500); series(NONE, 1, 399); stow(0) = FULL; take(1, 1); lay(1, 1, 1) = FULL; "
                + "undo(); undo(); stow(0) = UNKNOWN; undo(); undo(); series(NONE, 5, 9) = 0");
        Story.moves(98).go("series(NONE, 1, 9); room(0, 9); lay(0, 3, 3); room(1, 9); stow(0) = FULL; lay(0, 5, 5); shift(0, 1) = FULL; "
                + "stow(0) = FULL; take(1, 1) = FULL; lay(0, 1, 1) = FULL");
        longLabel().go("take(1, 1); lay(0, 5, 6); label(0) = FULL; undo(); undo(); label(0) = 199");
    }
}
