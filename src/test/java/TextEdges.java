/** A new object, the text with its grammar and faults, and what its commands do: promises 1 to 5. */
final class TextEdges {
    private static final int NONE = BoxedPapers.NONE;

    private TextEdges() { }

    static void all() {
        newObject();
        type();
        erase();
        grammar();
        tokens();
        blanks();
        numbers();
        commandAll();
        commands();
        commandsAndMethods();
        commandsWithoutEffect();
        faultyTokens();
        textsThatEndTooEarly();
        fault();
        tell();
    }

    private static Story begin(String calls) {
        return Story.begin(calls);
    }

    private static Story fault(String text, int position) {
        return Story.fault(text, position);
    }

    /** So many commands, none of which needs a number. */
    private static String alls(int number) {
        return "all" + ";all".repeat(number - 1);
    }

    private static void newObject() {
        Sentences.quote(1, "Creates an archive in the initial state, with an empty text");
        begin("count(*) = 0 0 0 0 0 0 0 0 0 0 0 0; erase() = 0; fault() = 0; undo() = NOT");
        for (int box = 0; box < 8; box++) {
            Story.begin().due(0, "box", box, 0).due(0, "box", box, 1).due(0, "box", box, 2).due(0, "box", box, 3)
                    .due(NONE, "box", box, 4).due(NONE, "box", box, 5);
        }
        Story first = begin("series(NONE, 1, 5); room(0, 5); lay(0, 1, 5); pass(9); row(0, 1, 1); label(0); 'all'");
        begin("count(*) = 0 0 0 0 0 0 0 0 0 0 0 0; box(0, 0) = 0");
        first.go("count(*) = 1 1 1 9 1 5 0 1 0 5 4 3");
    }

    private static void type() {
        Sentences.quote(2, "Appends a byte to the text");
        begin("type(97) = 1; type(108) = 2; type(108) = 3; tell() = 1");
        begin("type(97); type(108); fault() = 0; type(108); fault() = NONE; type(32); fault() = NONE; type(108); fault() = 4");
        Sentences.quote(2, "the byte, 0 to 255");
        begin("type(0) = 1; type(255) = 2; type(32) = 3; type(128) = 4; count(11) = 4");
        Sentences.quote(2, "Returns the length of the text");
        begin("type(32) = 1; type(32) = 2; erase() = 2; type(32) = 1").go("'ll'; count(11) = 3; type(0) = 4");
        Sentences.quote(2, "OUTSIDE if letter is out of range");
        begin("type(-1) = OUTSIDE; type(256) = OUTSIDE; type(MIN) = OUTSIDE; type(MAX) = OUTSIDE; type(353) = OUTSIDE; count(11) = 0");
        Sentences.quote(2, "FULL if it has 200 bytes");
        Story.begin().typed("a".repeat(198)).go("type(97) = 199; type(97) = 200; type(97) = FULL; type(0) = FULL; count(11) = 200; "
                + "erase() = 200; type(97) = 1");
    }

    private static void erase() {
        Sentences.quote(3, "Empties the text");
        begin("'all;all'; erase() = 7; count(11) = 0; fault() = 0; tell() = NOT; 'all'; fault() = NONE");
        Story.begin().typed("x".repeat(200)).go("erase() = 200; count(11) = 0; type(97) = 1");
        begin("pass(1); row(0, 1, 1); 'all'; erase() = 3; count(10) = 1; count(4) = 1; count(3) = 1");
        begin("'all;all'; erase(); 'all'; fault() = NONE; erase(); '  '; fault() = 2; erase(); 'al'; fault() = 0");
        begin("'take 1 23'; erase(); 'take 1 2'; fault() = NONE; tell() = 1; move(0, 2) = 2; 'pass 1'; fault() = NONE; tell() = 1; count(3) = 1");
        begin("'pass  999'; tell() = 1; 'pass  '; fault() = 6; erase(); 'pass 9'; tell() = 1; count(3) = 1008");
        Sentences.quote(3, "Returns the length that it had");
        begin("erase() = 0; 'x'; erase() = 1; erase() = 0; 'all;'; erase() = 4; erase() = 0");
    }

    private static void grammar() {
        Sentences.quote(0, "Commands can be given by a text of at most 200 bytes with this grammar:");
        fault(" ".repeat(197) + "all", NONE).go("count(11) = 200; tell() = 1; count(11) = 0");
        fault(" ".repeat(196) + "all;", 200).go("count(11) = 200; type(97) = FULL; fault() = 200");
        fault("take " + "0".repeat(9) + "1 2" + " ".repeat(182) + ",", 199);
        Sentences.quote(0, "text = command { \";\" command }");
        fault("all", NONE);
        fault("all;all", NONE);
        fault("all;", 4);
        fault(";", 0);
        fault(";all", 0);
        fault("all;;all", 4);
        fault("all all", 4);
        fault("all,all", 3);
        fault("pass 1 pass 1", 7);
        Sentences.quote(0, "command = \"all\"");
        fault("all;series 0 1 2;top 1 2;box 7 0;lay 0 1 1;take 1 2;row 7 1 2;pass 999", NONE);
        String[] rightOnes = {"all", "series 0 1 2", "top 1 2", "box 0 1", "lay 0 1 2", "take 1 2", "row 0 1 2", "pass 1"};
        for (String right : rightOnes) {
            fault(right, NONE);
            fault(right + " 3", right.length() + 1);
            fault(right + " all", right.length() + 1);
            fault(right.substring(0, right.length() - 1), right.equals("all") ? 0 : right.length() - 1);
            fault("x" + right, 0);
            fault(right.substring(1), 0);
            for (int i = 0; i < right.length() && right.charAt(i) >= 'a'; i++) {
                fault(right.substring(0, i) + "q" + right.substring(i + 1), 0);
            }
        }
        Sentences.quote(0, "There are at most 24 commands");
        fault(alls(24), NONE).go("tell() = 24");
        fault(alls(25), 95);
        fault(alls(23), NONE).go("tell() = 23");
        fault("pass1" + ";pass1".repeat(23), NONE).go("tell() = 24; count(3) = 24");
        fault("pass1" + ";pass1".repeat(24), 143).go("count(3) = 0");
    }

    private static void tokens() {
        Sentences.quote(0, "A token is a word (a longest run of letters a to z), a number (a longest run of digits), or any other");
        fault("allz", 0);
        fault("alla", 0);
        fault("al l", 0);
        fault("ALL", 0);
        fault("alL", 0);
        fault("all`", 3);
        fault("all{", 3);
        fault("take 12 13", NONE);
        fault("take 1 23 4", 10);
        fault("pass 1/", 6);
        fault("pass 1:", 6);
        fault("pass 1.", 6);
        fault("pass +1", 5);
        fault("pass -1", 5);
        fault("pass x1", 5);
        fault("top 1x 2", 5);
        for (int letter = 0; letter < 256; letter++) {
            boolean blank = letter == 32;
            boolean sameWord = letter >= 'a' && letter <= 'z';
            if (letter != ';') {
                fault("all" + (char) letter, blank ? NONE : sameWord ? 0 : 3);
            }
        }
    }

    private static void blanks() {
        Sentences.quote(0, "Any number of blanks may stand before, between and behind tokens");
        fault("   all", NONE);
        fault("all   ", NONE);
        fault("all  ;  all", NONE);
        fault("  series   0    1     2  ;  pass   7   ", NONE).go("tell() = 2; count(3) = 7");
        fault("top " + " ".repeat(192) + " 1 2", NONE);
        fault("all\t", 3);
        fault("\nall", 0);
        Sentences.quote(0, "one is necessary only between two words or two numbers");
        fault("pass1;top1 2;lay0 1 2;take1 2;box0 1;row0 1 1;series0 1 1;all", NONE).go("tell() = 8");
        fault("allall", 0);
        fault("all all", 4);
        fault("take 12", 7);
        fault("take 1 2", NONE);
        fault("pass1all", 5);
        fault("pass1 all", 6);
        fault("lay 01 2", 8);
        fault("all1", 3);
    }

    private static void numbers() {
        Sentences.quote(0, "P is a number from 0 to 9, X from 0 to 7, A from 1 to 2000000000, B from A to 2000000000, R from 0");
        fault("series 0 1 1", NONE);
        fault("series 9 1 1", NONE);
        fault("series 10 1 1", 7);
        for (String word : new String[] {"lay", "row"}) {
            fault(word + " 0 1 1", NONE);
            fault(word + " 7 1 1", NONE);
            fault(word + " 8 1 1", 4);
        }
        fault("box 0 1", NONE);
        fault("box 7 1", NONE);
        fault("box 8 1", 4);
        for (String head : new String[] {"series 0 ", "top ", "lay 0 ", "take ", "row 0 "}) {
            int at = head.length();
            fault(head + "0 1", at);
            fault(head + "1 1", NONE);
            fault(head + "2000000000 2000000000", NONE);
            fault(head + "2000000001 2000000001", at);
            fault(head + "1 2000000000", NONE);
            fault(head + "1 2000000001", at + 2);
            fault(head + "5 4", at + 2);
            fault(head + "5 5", NONE);
            fault(head + "5 0", at + 2);
            fault(head + "10 9", at + 3);
            fault(head + "1 4294967298", at + 2);
            fault(head + "4294967297 4294967298", at);
        }
        fault("box 0 0", NONE);
        fault("box 0 2000000000", NONE);
        fault("box 0 2000000001", 6);
        fault("box 0 4294967296", 6);
        fault("pass 0", 5);
        fault("pass 1", NONE);
        fault("pass 999", NONE);
        fault("pass 1000", 5);
        fault("pass 4294967297", 5);
        Sentences.quote(0, "a number has at most 10 digits");
        fault("pass 0000000001", NONE).go("tell() = 1; count(3) = 1");
        fault("pass 00000000001", 5);
        fault("box 0000000000 0000000000", NONE);
        fault("box 00000000000 0", 4);
        fault("box 0 00000000000", 6);
        fault("take 9999999999 1", 5);
        fault("take 1 9999999999", 7);
        fault("box 0 18446744073709551616", 6);
        fault("pass " + "0".repeat(195), 5);
    }

    private static void commandAll() {
        Sentences.quote(0, "all: everything becomes as at first (no list, empty paper, day 0, too), except the text");
        String filled = "series(NONE, 1, 50); series(0, 5, 9); room(0, 50); room(7, 5); lay(0, 3, 7); take(4, 4); pass(9); row(0, 1, 9); "
                + "row(1, 1, 9); label(0); ";
        begin(filled + "'all'; tell() = 1; count(*) = 0 0 0 0 0 0 0 0 0 0 0 0; box(0, 0) = 0; box(7, 0) = 0; of(0, 0) = UNKNOWN; "
                + "where(3) = NONE; was(3, 0) = NONE; trail(3, NONE) = 0; listed(0, 0) = UNKNOWN; paper(0) = NONE; move(0, 0) = UNKNOWN; "
                + "undo() = NOT; home(5) = NONE; lay(0, 1, 1) = FULL; series(NONE, 1, 50) = 0; row(0, 1, 1) = 0");
        begin(filled + "'pass 3;all;pass 4;top 7 8;box 1 2;lay 1 7 8;row 1 7 7'; tell() = 7; count(*) = 1 1 1 4 1 2 0 1 0 0 0 0; "
                + "of(0, 1) = 7; move(0, 0) = 4; box(0, 0) = 0; box(1, 0) = 2");
        begin(filled + "'all;'; tell() = NOT; count(0) = 2; count(3) = 9; count(9) = 9");
    }

    private static void commands() {
        Sentences.quote(0, "series: adds a series with the parent P and the range A to B");
        begin("series(NONE, 1, 50); 'series 0 5 9'; tell() = 1; count(0) = 2; of(1, 0) = 0; of(1, 1) = 5; of(1, 2) = 9; of(0, 4) = 2");
        begin("'top 1 5;series 0 1 5;series 1 1 5'; tell() = 3; count(0) = 3; of(2, 0) = 1");
        Sentences.quote(0, "top: adds a series without a parent");
        begin("'top 5 9;top 1 4'; tell() = 2; count(0) = 2; of(0, 0) = NONE; of(0, 1) = 5; of(0, 2) = 9; of(1, 0) = NONE; of(1, 1) = 1");
        Sentences.quote(0, "box: sets the room of box X to R");
        begin("'box 7 2000000000;box 0 5;box 0 0'; tell() = 3; box(7, 0) = TOP; box(0, 0) = 0");
        Sentences.quote(0, "lay, take, pass: as the methods lay, take and pass, with box X, sheets A to B, and N days");
        begin("room(7, 9); 'lay 7 5 9;pass 999;take 6 7;pass 1'; tell() = 4; count(2) = 2; move(0, *) = 0 5 9 7; "
                + "move(1, *) = 999 6 7 NONE; count(3) = 1000; where(5) = 7; where(6) = NONE; where(8) = 7; box(7, 1) = 3; "
                + "was(6, 0) = 7; was(6, 999) = NONE");
        Sentences.quote(0, "row: adds a row to the list");
        begin("row(1, 1, 2); 'row 7 5 2000000000;row 0 1 1'; tell() = 2; count(4) = 3; listed(1, 0) = 7; listed(1, 1) = 5; "
                + "listed(1, 2) = TOP; listed(2, 0) = 0; count(2) = 0");
    }

    /** A command does what its method does, and nothing besides, also behind a text with more and other numbers. */
    private static void commandsAndMethods() {
        Sentences.quote(5, "Carries out the commands of the text in their order, and empties it");
        String scene = "series(NONE, 50, 90); room(0, 30); room(1, 30); lay(0, 51, 59); label(0); 'row 7 1 9;row 6 55 70;row 1 1 1'; tell(); ";
        String[] texts = {"series 0 55 60", "top 5 9", "top 1 2", "box 0 20", "box 5 6", "lay 1 5 7", "lay 0 1 1", "take 5 6", "take 1 55",
            "row 1 5 8", "row 5 1 1", "pass 1", "pass 7"};
        String[] calls = {"series(0, 55, 60)", "series(NONE, 5, 9)", "series(NONE, 1, 2)", "room(0, 20)", "room(5, 6)", "lay(1, 5, 7)",
            "lay(0, 1, 1)", "take(5, 6)", "take(1, 55)", "row(1, 5, 8)", "row(5, 1, 1)", "pass(1)", "pass(7)"};
        // The command at the end changes nothing, but there is nothing to undo behind it either.
        for (int k = 0; k < texts.length; k++) {
            begin(scene).typed(texts[k]).go("tell() = 1").like(begin(scene + calls[k] + "; 'box 4 0'; tell()"));
            begin(scene).typed("box 4 0;" + texts[k]).go("tell() = 2").like(begin(scene + calls[k] + "; 'box 4 0'; tell()"));
        }
    }

    private static void commandsWithoutEffect() {
        Sentences.quote(0, "A command whose method would return an error has no effect");
        String[] refused = {"series 5 7 9", "series 0 7 60", "series 0 55 91", "top 1 50", "top 90 91", "top 60 61", "box 0 8", "lay 7 1 1",
            "lay 0 1 22"};
        String scene = "series(NONE, 50, 90); room(0, 30); lay(0, 51, 59); row(0, 1, 1); label(0); pass(3); 'row 7 1 9;row 6 2 8'; tell(); ";
        for (String command : refused) {
            begin(scene).typed(command).go("tell() = 1").like(begin(scene));
            begin(scene).typed(command + ";pass 1;" + command).go("tell() = 3").like(begin(scene + "'pass 1'; tell()"));
        }
        begin("'series 0 1 1;top 10 20;series 1 10 10;series 0 9 10;series 0 20 21;top 20 20'; tell() = 6; count(0) = 1; of(0, 4) = 0");
        begin("'series 0 1 1;pass 2'; tell() = 2; count(0) = 0; count(3) = 2");
        Story ten = Story.begin();
        for (int k = 0; k < 10; k++) {
            ten.due(k, "series", NONE, k + 1, k + 1);
        }
        ten.go("'top 50 50;series 9 10 10'; tell() = 2; count(0) = 10; home(50) = NONE; of(9, 4) = 0");
        begin("'box 0 5;lay 0 1 6;lay 0 1 5;box 0 4;lay 0 6 6;box 0 5'; tell() = 6; box(0, *) = 5 5 1 0 1 5; count(2) = 1");
        Story.pieces(40).go("'lay 0 500 500'; tell() = 1; count(1) = 40; count(2) = 40; where(500) = NONE");
        Story.pieces(40).go("take(400, 400); lay(0, 11, 12); lay(0, 500, 500); 'take 11 11'; tell() = 1; count(1) = 40; where(11) = 0");
        Story.moves(99).go("room(0, 9); 'lay 0 5 5;lay 0 6 6;take 5 5;pass 1'; tell() = 4; count(2) = 100; where(5) = 0; where(6) = NONE; "
                + "count(3) = 1");
        Story rows = Story.begin();
        for (int k = 0; k < 12; k++) {
            rows.due(k, "row", 1, 1, 1);
        }
        rows.go("'row 0 5 9'; tell() = 1; count(4) = 12; listed(11, 0) = 1; count(8) = 0");
    }

    private static void faultyTokens() {
        Sentences.quote(0, "The fault of a text is the first token that is not allowed at its place, including numbers that are out");
        fault("x;y", 0);
        fault("all;x;y", 4);
        fault("take 0 0;x", 5);
        fault("take 5 4;take 0 0", 7);
        fault("lay 8 0 0", 4);
        fault("lay;all", 3);
        fault("lay 0;all", 5);
        fault("lay 0 1;all", 7);
        fault("lay all", 4);
        fault("pass 00000000001;x", 5);
        fault(alls(24) + ";", 95);
        fault(alls(24) + " ;all", 96);
        fault(alls(24) + " all", 96);
        fault(alls(24) + "1", 95);
        fault(alls(23) + ";alt;", 92);
        fault("x" + ";all".repeat(24), 0);
        Sentences.quote(0, "its position is that of its first byte");
        fault("all;  xyz", 6);
        fault("   xyz", 3);
        fault("pass     1000", 9);
        fault("take 1   00000000002", 9);
        fault("all     ,", 8);
        fault("box 0 2000000001", 6);
    }

    private static void textsThatEndTooEarly() {
        Sentences.quote(0, "If the text ends too early (also if it is empty), the position is its length");
        fault("", 0);
        fault(" ", 1);
        fault(" ".repeat(200), 200);
        fault("all;", 4);
        fault("all;   ", 7);
        fault("series", 6);
        fault("series 0", 8);
        fault("series 0 1", 10);
        fault("series 0 1  ", 12);
        fault("top", 3);
        fault("top 1", 5);
        fault("box", 3);
        fault("box 0", 5);
        fault("box 0 ", 6);
        fault("lay", 3);
        fault("lay 0 1", 7);
        fault("take", 4);
        fault("take 1", 6);
        fault("row", 3);
        fault("row 0", 5);
        fault("row 0 1", 7);
        fault("pass", 4);
        fault("pass  ", 6);
        fault(" ".repeat(196) + "pass", 200);
    }

    private static void fault() {
        Sentences.quote(4, "Checks the text");
        begin("pass(1); 'all'").still("fault() = NONE; fault() = NONE");
        begin("pass(1); 'al'").still("fault() = 0; fault() = 0");
        begin("'pass 5'; fault() = NONE; count(3) = 0; count(11) = 6; type(48); fault() = NONE; type(48); fault() = NONE; type(48); fault() = 5");
        Sentences.quote(4, "Returns the position of its fault");
        fault("all;all;al", 8);
        fault("", 0);
        fault("all" + " ".repeat(196) + "x", 199);
        fault("all" + " ".repeat(196) + ";", 200);
        Sentences.quote(4, "NONE if it has none");
        fault("all", NONE);
        fault("all" + " ".repeat(197), NONE);
        begin("'series 9 1 1'; fault() = NONE");
    }

    private static void tell() {
        Sentences.quote(5, "Carries out the commands of the text in their order, and empties it");
        begin("'box 0 5;lay 0 1 5;pass 2;take 1 2;box 0 3'; tell() = 5; count(11) = 0; box(0, 0) = 3; box(0, 1) = 3; move(0, 0) = 0; "
                + "move(1, 0) = 2; tell() = NOT; fault() = 0; type(97) = 1");
        begin("'box 0 3;take 1 2;pass 2;lay 0 1 5;box 0 5'; tell() = 5; box(0, 1) = 0; box(0, 0) = 5; count(2) = 1; move(0, 0) = 0");
        Sentences.quote(5, "There is nothing to undo after that");
        begin("pass(1); pass(2); count(10) = 2; 'pass 3'; tell() = 1; count(10) = 0; undo() = NOT; count(3) = 6; pass(4); undo() = 0; "
                + "count(3) = 6; undo() = NOT");
        begin("pass(1); 'series 0 1 1'; tell() = 1; count(10) = 0; undo() = NOT; count(3) = 1");
        begin("pass(1); 'row 0 1 1'; tell() = 1; undo() = NOT");
        begin("pass(1); pass(1); pass(1); pass(1); pass(1); pass(1); pass(1); pass(1); pass(1); 'all'; tell() = 1; undo() = NOT; pass(3); "
                + "room(0, 5); count(10) = 2; undo() = 1; undo() = 0; undo() = NOT; count(3) = 0");
        Sentences.quote(5, "Returns the number of commands");
        begin("'all'; tell() = 1; 'all;all'; tell() = 2").typed(alls(24)).go("tell() = 24");
        begin("'series 5 1 1;lay 0 1 1'; tell() = 2");
        Sentences.quote(5, "NOT if the text has a fault (it stays then)");
        begin("tell() = NOT; pass(1); 'pass 5;'; tell() = NOT; count(11) = 7; count(3) = 1; count(10) = 1; tell() = NOT; 'all'; tell() = 2; "
                + "count(3) = 0");
        begin("pass(1); 'all;pass 1000'; tell() = NOT; count(3) = 1; undo() = 0; count(3) = 0; fault() = 9");
    }
}
