/** The list, labels, the paper, plans and counts: promises 23 to 31. */
final class ListEdges {
    private ListEdges() { }

    static void all() {
        row();
        rowRefused();
        clear();
        listed();
        listedRefused();
        unlisted();
        label();
        labelRefused();
        paper();
        plan();
        planRefused();
        left();
        countsOfArchive();
        countsOfSheets();
        countsOfTheRest();
    }

    private static Story begin(String calls) {
        return Story.begin(calls);
    }

    private static Story rows(int number) {
        Story story = Story.begin();
        for (int k = 0; k < number; k++) {
            story.due(k, "row", 7, 1, 2000000000);
        }
        return story;
    }

    private static void row() {
        Sentences.quote(23, "Adds a row to the list");
        begin("row(3, 5, 9) = 0; count(4) = 1; listed(0, *) = 3 5 9 0 0 NONE; count(10) = 0; count(2) = 0; row(3, 5, 9) = 1; listed(1, 0) = 3");
        Sentences.quote(23, "number of the box");
        begin("row(0, 1, 1) = 0; row(7, 1, 1) = 1; row(8, 1, 1) = UNKNOWN; listed(0, 0) = 0; listed(1, 0) = 7");
        Sentences.quote(23, "the first sheet of the range, 1 to 2000000000");
        begin("row(0, 0, 1) = OUTSIDE; row(0, 1, 1) = 0; row(0, TOP, TOP) = 1; row(0, TOP+1, TOP+1) = OUTSIDE");
        Sentences.quote(23, "the last sheet of the range, a to 2000000000");
        begin("row(0, 5, 4) = OUTSIDE; row(0, 5, 5) = 0; row(0, 5, TOP) = 1; row(0, 5, TOP+1) = OUTSIDE");
        Sentences.quote(23, "Returns the number of the row");
        rows(12).go("count(4) = 12");
        begin("row(0, 1, 1) = 0; clear(); row(0, 2, 2) = 0; row(0, 3, 3) = 1");
    }

    private static void rowRefused() {
        Sentences.quote(23, "UNKNOWN if there is no such box");
        begin("row(8, 1, 1) = UNKNOWN; row(-1, 1, 1) = UNKNOWN; row(MIN, 1, 1) = UNKNOWN; row(MAX, 1, 1) = UNKNOWN; count(4) = 0");
        Sentences.quote(23, "OUTSIDE if a or b is out of range");
        begin("row(0, 0, 1) = OUTSIDE; row(0, 2, 1) = OUTSIDE; row(0, 1, TOP+1) = OUTSIDE; row(0, -1, 1) = OUTSIDE; row(0, MIN, MAX) = OUTSIDE; "
                + "row(0, 1, MIN) = OUTSIDE; count(4) = 0");
        Sentences.quote(23, "FULL if there are 12 rows");
        rows(11).go("row(0, 5, 5) = 11; row(0, 5, 5) = FULL; row(7, 1, 1) = FULL; count(4) = 12; listed(11, 0) = 0; listed(12, 0) = UNKNOWN");
    }

    private static void clear() {
        Sentences.quote(24, "Removes all rows of the list");
        begin("row(0, 1, 5); row(1, 5, 9); clear(); count(4) = 0; count(8) = 0; listed(0, 0) = UNKNOWN; row(2, 5, 6) = 0; listed(0, 5) = NONE");
        begin("room(0, 9); lay(0, 1, 5); row(0, 1, 5); unlisted(0) = 0; clear(); unlisted(0) = 5; count(5) = 5; count(10) = 2");
        Sentences.quote(24, "Returns how many there were");
        begin("clear() = 0; row(0, 1, 1); clear() = 1; clear() = 0");
        rows(12).go("clear() = 12; clear() = 0; row(0, 1, 1) = 0");
    }

    private static final String LIST = "room(0, 50); room(1, 50); lay(0, 1, 4); lay(1, 5, 7); lay(0, 9, 12); row(0, 3, 10); row(0, 1, 5); "
            + "row(1, 10, 20); row(1, 21, 22); row(2, 10, 21); ";

    private static void listed() {
        Sentences.quote(25, "Returns a property of a row of the list");
        begin(LIST).still("listed(0, *) = 0 3 10 4 3 2; listed(1, *) = 0 1 5 4 1 NONE; listed(2, *) = 1 10 20 0 3 0; "
                + "listed(3, *) = 1 21 22 0 0 4; listed(4, *) = 2 10 21 0 3 0");
        Sentences.quote(25, "number of the row");
        rows(12).go("listed(0, 0) = 7; listed(11, 0) = 7; listed(12, 0) = UNKNOWN");
        Sentences.quote(25, "0: its box");
        begin("row(0, 1, 1); row(7, 1, 1); listed(0, 0) = 0; listed(1, 0) = 7");
        Sentences.quote(25, "1: the first sheet of its range");
        begin("row(0, 1, 5); row(0, TOP, TOP); listed(0, 1) = 1; listed(1, 1) = TOP");
        Sentences.quote(25, "2: the last one");
        begin("row(0, 1, 1); row(0, 5, TOP); listed(0, 2) = 1; listed(1, 2) = TOP");
        Sentences.quote(25, "3: how many sheets of its range are in its box");
        begin("row(0, 5, 9); listed(0, 3) = 0; room(0, TOP); room(1, TOP); lay(0, 1, 4); lay(0, 10, 12); listed(0, 3) = 0; lay(0, 5, 5); "
                + "listed(0, 3) = 1; lay(0, 9, 9); listed(0, 3) = 2; lay(0, 1, TOP); listed(0, 3) = 5; lay(1, 7, 20); listed(0, 3) = 2; take(5, 5); "
                + "listed(0, 3) = 1; row(1, 1, TOP); listed(1, 3) = 14");
        Sentences.quote(25, "4: how many of them are in another box");
        begin("row(0, 5, 9); listed(0, 4) = 0; room(0, TOP); room(1, TOP); room(2, 9); lay(1, 1, 4); lay(1, 10, 12); listed(0, 4) = 0; lay(1, 5, 5); "
                + "listed(0, 4) = 1; lay(2, 8, 9); listed(0, 4) = 3; lay(0, 7, 8); listed(0, 4) = 2; lay(1, 1, TOP); listed(0, 4) = 5; "
                + "lay(0, 1, TOP); listed(0, 4) = 0; row(1, 1, TOP); listed(1, 4) = TOP; listed(1, 3) = 0");
        Sentences.quote(25, "5: the lowest row with which it clashes (NONE if there is none)");
        begin("row(0, 10, 20); listed(0, 5) = NONE; row(0, 15, 25); listed(0, 5) = NONE; row(1, 1, 9); row(1, 21, 24); listed(0, 5) = NONE; "
                + "listed(1, 5) = 3; listed(3, 5) = 1; row(2, 20, 21); listed(0, 5) = 4; listed(1, 5) = 3; listed(4, 5) = 0; row(3, 9, 10); "
                + "listed(0, 5) = 4; listed(2, 5) = 5; listed(5, 5) = 0");
    }

    private static void listedRefused() {
        Sentences.quote(25, "Returns the property");
        begin("row(4, 5, 6); listed(0, *) = 4 5 6 0 0 NONE");
        Sentences.quote(25, "UNKNOWN if there is no such row");
        begin("listed(0, 0) = UNKNOWN; listed(-1, 0) = UNKNOWN; row(0, 1, 1); listed(0, 0) = 0; listed(1, 0) = UNKNOWN; listed(-1, 0) = UNKNOWN; "
                + "listed(MIN, 0) = UNKNOWN; listed(MAX, 0) = UNKNOWN; clear(); listed(0, 0) = UNKNOWN");
        Sentences.quote(25, "OUTSIDE if what is out of range");
        begin("row(0, 1, 1); listed(0, -1) = OUTSIDE; listed(0, 6) = OUTSIDE; listed(0, MIN) = OUTSIDE; listed(0, MAX) = OUTSIDE");
    }

    private static void unlisted() {
        Sentences.quote(26, "Counts the sheets of a box that are in the range of no row of the list for this box");
        String sheets = "room(0, 90); room(1, 50); lay(0, 1, 20); lay(1, 21, 30); lay(0, 31, 40); ";
        begin(sheets).still("unlisted(0) = 30; unlisted(1) = 10");
        begin(sheets + "row(0, 12, 14); unlisted(0) = 27; row(0, 5, 9); unlisted(0) = 22; row(0, 8, 12); unlisted(0) = 20; row(0, 10, 10); "
                + "unlisted(0) = 20; row(1, 1, 4); unlisted(0) = 20; row(0, 20, 31); unlisted(0) = 18; unlisted(1) = 10; row(1, 22, 29); "
                + "unlisted(1) = 2; row(0, 21, 30); unlisted(0) = 18; unlisted(1) = 2; row(1, 1, TOP); unlisted(1) = 0; row(0, 1, TOP); unlisted(0) = 0");
        begin(sheets + "row(0, 1, 1); unlisted(0) = 29; row(0, 40, 40); unlisted(0) = 28; row(0, 20, 20); unlisted(0) = 27; row(0, 31, 31); "
                + "unlisted(0) = 26; row(0, 41, 50); unlisted(0) = 26; row(0, 2, 2); row(0, 4, 4); row(0, 3, 3); unlisted(0) = 23");
        begin(sheets + "row(0, 5, 9); row(0, 12, 12); unlisted(0) = 24; clear(); unlisted(0) = 30; row(0, 15, 15); unlisted(0) = 29");
        rows(12).go("room(7, 9); lay(7, 5, 9); unlisted(7) = 0; room(0, 9); lay(0, 7, 9); unlisted(0) = 3; unlisted(7) = 0");
        Sentences.quote(26, "number of the box");
        begin("room(0, 1); room(7, 2); lay(0, 1, 1); lay(7, 5, 6); unlisted(0) = 1; unlisted(7) = 2; unlisted(8) = UNKNOWN");
        Sentences.quote(26, "Returns the number of these sheets");
        begin("unlisted(0) = 0; row(0, 1, 5); unlisted(0) = 0; room(0, TOP); lay(0, 1, TOP); unlisted(0) = TOP-5; clear(); unlisted(0) = TOP; "
                + "row(0, TOP, TOP); unlisted(0) = TOP-1; row(0, 1, 1); unlisted(0) = TOP-2");
        Sentences.quote(26, "UNKNOWN if there is no such box");
        begin("unlisted(8) = UNKNOWN; unlisted(-1) = UNKNOWN; unlisted(MIN) = UNKNOWN; unlisted(MAX) = UNKNOWN");
    }

    private static void label() {
        Sentences.quote(27, "Writes the label of a box onto the paper, in place of what is there");
        begin("room(0, 101); room(1, 99); lay(0, 100, 200); lay(1, 5, 5); count(9) = 0; label(0) = 9; label(1) = 3").page("x:5");
        begin("room(0, 99); lay(0, 7, 8); label(0) = 5; take(7, 8); count(9) = 5; count(10) = 3").page("x:7-8");
        Sentences.quote(27, "number of the box");
        begin("room(0, 9); room(7, 9); lay(0, 1, 1); lay(7, 2, 2); label(0) = 3; paper(2) = 49; label(7) = 3; paper(2) = 50; label(8) = UNKNOWN");
        Sentences.quote(27, "Returns the number of its characters");
        begin("label(0) = 0; room(0, 999); lay(0, 1, 1); label(0) = 3; lay(0, 2, 2); label(0) = 5; lay(0, 3, 10); label(0) = 6; lay(0, 99, 99); "
                + "label(0) = 9; lay(0, 100, 100); label(0) = 13; series(NONE, 1, 1); label(0) = 17; series(NONE, TOP, TOP); label(0) = 17");
        begin("room(0, 99); lay(0, 1, 20); series(NONE, 5, 9); label(0) = 17; undo(); label(0) = 6").page("x:1-20");
        DescriptionEdges.longLabel().go("take(1000000000, 1000000000); label(0) = 188; lay(0, 12, 12); lay(0, 100000000, 100000000); label(0) = FULL; "
                + "undo(); lay(0, 10000000, 10000000); label(0) = 200; count(9) = 200");
    }

    private static void labelRefused() {
        Sentences.quote(27, "UNKNOWN if there is no such box");
        begin("room(0, 9); lay(0, 1, 1); label(0); label(8) = UNKNOWN; label(-1) = UNKNOWN; label(MIN) = UNKNOWN; label(MAX) = UNKNOWN").page("x:1");
        Sentences.quote(27, "FULL if the label has more than 200 characters");
        DescriptionEdges.longLabel().go("lay(0, 5, 5); label(0) = FULL; count(9) = 199; paper(2) = 49; series(NONE, 5, 5); label(0) = FULL; take(5, 5); "
                + "label(0) = 199; label(1) = 0; lay(0, 5, 5); label(0) = FULL; count(9) = 0; paper(0) = NONE");
        Story wide = Story.begin("room(0, 999)");
        for (int k = 0; k < 40; k++) {
            wide.due(2, "lay", 0, 1000000000 + 3 * k, 1000000001 + 3 * k);
        }
        wide.go("label(0) = FULL; count(9) = 0; paper(0) = NONE; take(1000000027, TOP); label(0) = 199");
    }

    private static void paper() {
        Sentences.quote(28, "Returns a character of the paper");
        begin("room(0, 9); lay(0, 7, 8); lay(0, 10, 10); label(0) = 8")
                .still("paper(0) = 120; paper(1) = 58; paper(2) = 55; paper(3) = 45; paper(4) = 56; paper(5) = 44; paper(6) = 49; paper(7) = 48");
        Sentences.quote(28, "its index, from 0");
        DescriptionEdges.longLabel().go("paper(0) = 120; paper(1) = 58; paper(198) = 52; paper(199) = NONE; paper(-1) = NONE");
        Sentences.quote(28, "Returns its code");
        begin("series(NONE, 1, 1); room(0, 99); lay(0, 1, 1); lay(0, 23, 23); lay(0, 45, 67); lay(0, 89, 89); label(0) = 17").page("0:1;x:23,45-67,89");
        Sentences.quote(28, "NONE if there is no such character");
        begin("paper(0) = NONE; room(0, 9); lay(0, 7, 8); label(0) = 5; paper(4) = 56; paper(5) = NONE; paper(199) = NONE; paper(200) = NONE; "
                + "paper(-1) = NONE; paper(MIN) = NONE; paper(MAX) = NONE; label(1) = 0; paper(0) = NONE; paper(4) = NONE");
    }

    private static final String PLAN = "series(NONE, 1, 100); series(0, 20, 29); room(0, 50); room(3, 8); lay(0, 15, 24); ";

    private static void plan() {
        Sentences.quote(29, "Returns the plan of a series");
        begin(PLAN).still("plan(0, NONE, 0) = 3; plan(0, 0, *) = 1 14 0; plan(0, 1, *) = 25 50 0; plan(0, 2, *) = 51 58 3; plan(1, NONE, 0) = 1; "
                + "plan(1, 0, *) = 25 29 3");
        Sentences.quote(29, "number of the series");
        begin(PLAN + "plan(0, NONE, 0) = 3; plan(1, NONE, 0) = 1; plan(2, NONE, 0) = UNKNOWN");
        Sentences.quote(29, "NONE for the number of layings");
        begin("series(NONE, 1, 9); plan(0, NONE, 0) = 0; room(0, 1); plan(0, NONE, 0) = 1; room(1, 1); plan(0, NONE, 0) = 2; room(2, 9); "
                + "plan(0, NONE, 0) = 1; lay(2, 1, 9); plan(0, NONE, 0) = 0");
        Sentences.quote(29, "otherwise the number of a laying");
        begin(PLAN + "plan(0, 0, 0) = 1; plan(0, 2, 0) = 51; plan(0, 3, 0) = NONE");
        Sentences.quote(29, "0: its first sheet");
        begin("series(NONE, 1, TOP); room(0, TOP-1); room(1, 1); plan(0, 0, 0) = 1; plan(0, 1, 0) = TOP");
        Sentences.quote(29, "1: its last sheet");
        begin("series(NONE, 1, TOP); room(0, TOP-1); room(1, 1); plan(0, 0, 1) = TOP-1; plan(0, 1, 1) = TOP");
        Sentences.quote(29, "2: its box (any value if k is NONE)");
        begin(PLAN + "plan(0, 0, 2) = 0; plan(0, 2, 2) = 3; plan(0, NONE, 2) = 3; plan(0, NONE, 3) = 3; plan(0, NONE, -1) = 3; plan(0, NONE, MIN) = 3; "
                + "plan(0, NONE, MAX) = 3");
        begin("series(NONE, 1, 1); room(7, 1); plan(0, 0, 2) = 7");
        Sentences.quote(29, "Returns that number");
        begin("series(NONE, 5, 6); room(7, 1); plan(0, NONE, 0) = 1; plan(0, 0, *) = 5 5 7");
    }

    private static void planRefused() {
        Sentences.quote(29, "NONE if there is no such laying");
        begin(PLAN + "plan(0, 2, 0) = 51; plan(0, 3, 0) = NONE; plan(0, 3, 2) = NONE; plan(0, MAX, 0) = NONE; plan(1, 1, 0) = NONE; room(0, 10); "
                + "room(3, 0); plan(0, 0, 0) = NONE");
        Sentences.quote(29, "UNKNOWN if there is no such series");
        begin("plan(0, NONE, 0) = UNKNOWN; plan(0, 0, 0) = UNKNOWN; plan(-1, 0, 0) = UNKNOWN; plan(MIN, 0, 0) = UNKNOWN; plan(MAX, 0, 0) = UNKNOWN; "
                + "series(NONE, 1, 1); plan(0, NONE, 0) = 0; plan(1, NONE, 0) = UNKNOWN; undo(); plan(0, NONE, 0) = UNKNOWN");
        Sentences.quote(29, "OUTSIDE if k is less than NONE, or k is not NONE and what is out of range");
        begin(PLAN + "plan(0, -2, 0) = OUTSIDE; plan(0, MIN, 0) = OUTSIDE; plan(0, -2, 3) = OUTSIDE; plan(0, 0, 3) = OUTSIDE; plan(0, 0, -1) = OUTSIDE; "
                + "plan(0, 0, MIN) = OUTSIDE; plan(0, 0, MAX) = OUTSIDE; plan(0, 3, 3) = OUTSIDE; plan(0, NONE, 3) = 3");
    }

    private static void left() {
        Sentences.quote(30, "Counts the sheets of the range of a series that would be in no box after the layings of its plan");
        begin(PLAN).still("left(0) = 42; left(1) = 0");
        begin("series(NONE, 1, 9); left(0) = 9; room(0, 4); left(0) = 5; room(1, 4); left(0) = 1; room(2, 1); left(0) = 0; room(2, 2); left(0) = 0; "
                + "lay(2, 20, 21); left(0) = 1; stow(0) = 2; left(0) = 1; of(0, 6) = 1");
        begin("series(NONE, 1, 30); room(7, 2); lay(7, 10, 10); lay(7, 20, 20); left(0) = 28; room(0, 3); left(0) = 25; plan(0, NONE, 0) = 1");
        Sentences.quote(30, "number of the series");
        begin(PLAN + "left(1) = 0; left(0) = 42; left(2) = UNKNOWN");
        Sentences.quote(30, "Returns the number of these sheets");
        begin("series(NONE, 1, TOP); left(0) = TOP; room(5, 1); left(0) = TOP-1; room(5, TOP-1); left(0) = 1; room(5, TOP); left(0) = 0; stow(0) = 1; "
                + "left(0) = 0");
        Sentences.quote(30, "UNKNOWN if there is no such series");
        begin("left(0) = UNKNOWN; left(-1) = UNKNOWN; left(MIN) = UNKNOWN; left(MAX) = UNKNOWN; series(NONE, 1, 1); left(1) = UNKNOWN; left(0) = 1");
    }

    private static void countsOfArchive() {
        Sentences.quote(31, "Returns a count");
        begin("series(NONE, 11, 20); series(0, 12, 13); room(0, 9); room(5, 9); lay(0, 9, 12); lay(5, 20, 21); take(10, 10); pass(8); row(0, 1, 5); "
                + "row(1, 5, 6); row(2, 5, 5); row(2, 7, 7); label(5); type(0)").still("count(*) = 2 3 3 8 4 5 2 2 3 9 8 1");
        Sentences.quote(31, "0: series");
        begin("count(0) = 0; series(NONE, 1, 9); count(0) = 1; series(0, 1, 9); count(0) = 2; undo(); count(0) = 1; series(0, 0, 1) = OUTSIDE; count(0) = 1");
        Sentences.quote(31, "1: pieces");
        begin("count(1) = 0; room(0, 9); room(1, 9); lay(0, 1, 5); count(1) = 1; lay(1, 3, 3); count(1) = 3; take(1, 2); count(1) = 2; take(1, 9); "
                + "count(1) = 0");
        Story.pieces(40).go("count(1) = 40");
        Sentences.quote(31, "2: moves");
        begin("count(2) = 0; take(1, 1); count(2) = 1; take(0, 1) = OUTSIDE; count(2) = 1; undo(); count(2) = 0");
        Story.moves(100).go("count(2) = 100");
        Sentences.quote(31, "3: the present day");
        begin("count(3) = 0; pass(999); count(3) = 999; pass(1); count(3) = 1000; undo(); count(3) = 999");
        Sentences.quote(31, "4: rows of the list");
        begin("count(4) = 0; row(0, 1, 1); count(4) = 1; clear(); count(4) = 0");
        rows(12).go("count(4) = 12");
    }

    private static void countsOfSheets() {
        Sentences.quote(31, "5: sheets that are in a box");
        begin("count(5) = 0; room(0, TOP); room(1, 9); lay(0, 1, 5); lay(1, 8, 9); count(5) = 7; lay(1, 1, 1); count(5) = 7; lay(0, 1, TOP); count(5) = TOP; "
                + "take(TOP, TOP); count(5) = TOP-1; take(1, TOP); count(5) = 0");
        Sentences.quote(31, "6: those of them that have no home");
        begin("count(6) = 0; room(0, TOP); room(1, TOP); lay(0, 10, 20); count(6) = 11; series(NONE, 15, 30); count(6) = 5; series(0, 15, 16); count(6) = 5; "
                + "lay(1, 31, 32); count(6) = 7; series(NONE, 1, 14); count(6) = 2; lay(0, 1, TOP); count(6) = TOP-30; series(NONE, 31, TOP); count(6) = 0");
        begin("room(0, TOP); lay(0, 1, TOP); count(6) = TOP; series(NONE, 1, 1); count(6) = TOP-1; series(NONE, TOP, TOP); count(6) = TOP-2");
        Sentences.quote(31, "7: boxes that are not empty");
        Story eight = Story.begin("count(7) = 0");
        for (int box = 0; box < 8; box++) {
            eight.due(0, "room", box, 5).due(1, "lay", box, box + 1, box + 1).due(box + 1, "count", 7);
        }
        eight.go("take(1, 1); count(7) = 7; lay(3, 1, 5); count(7) = 4; take(1, TOP); count(7) = 0");
        Sentences.quote(31, "8: pairs of rows that clash");
        Story rows = Story.begin("count(8) = 0");
        for (int k = 0; k < 12; k++) {
            rows.due(k, "row", k % 8, 5, 5);
        }
        rows.go("count(8) = 62; clear(); count(8) = 0; row(0, 1, 5); row(1, 5, 9); row(2, 9, 12); count(8) = 2; row(0, 1, TOP); count(8) = 4");
    }

    private static void countsOfTheRest() {
        Sentences.quote(31, "9: characters on the paper");
        begin("count(9) = 0; room(0, 9); lay(0, 1, 1); count(9) = 0; label(0); count(9) = 3; label(1); count(9) = 0");
        DescriptionEdges.longLabel().go("count(9) = 199");
        Sentences.quote(31, "10: calls that can be undone");
        begin("count(10) = 0; pass(1); count(10) = 1; pass(0) = OUTSIDE; count(10) = 1; row(0, 1, 1); count(10) = 1; undo(); count(10) = 0; undo() = NOT; "
                + "count(10) = 0; 'pass 1'; tell(); count(10) = 0");
        Story.moves(8).go("count(10) = 8; pass(1); count(10) = 8; undo(); count(10) = 7");
        Sentences.quote(31, "11: bytes of the text");
        begin("count(11) = 0; type(0); count(11) = 1; type(256) = OUTSIDE; count(11) = 1; erase(); count(11) = 0; 'all'; count(11) = 3; tell(); count(11) = 0");
        Story.begin().typed(" ".repeat(200)).go("count(11) = 200; type(32) = FULL; count(11) = 200");
        Sentences.quote(31, "Returns the count");
        begin("pass(7); count(3) = 7; count(10) = 1");
        Sentences.quote(31, "OUTSIDE if what is out of range");
        begin("count(-1) = OUTSIDE; count(12) = OUTSIDE; count(MIN) = OUTSIDE; count(MAX) = OUTSIDE; count(11) = 0");
    }
}
