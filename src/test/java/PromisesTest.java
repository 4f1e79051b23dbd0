/** For each promise of the document: ordinary inputs, the edges that it names, and wrong inputs. */
public final class PromisesTest {
    private static final int TOP = 2000000000;
    private static final int NONE = -1, UNKNOWN = -2, OUTSIDE = -3, NOT = -4, FULL = -5;
    private static final int MIN = Integer.MIN_VALUE, MAX = Integer.MAX_VALUE;

    private static int wrong = 0;
    private static int asked = 0;

    private static void due(String what, int got, int want) {
        asked++;
        if (got != want) {
            wrong++;
            System.out.println(what + ": answered " + got + ", due is " + want);
        }
    }

    private static void due(String what, String got, String want) {
        asked++;
        if (!got.equals(want)) {
            wrong++;
            System.out.println(what + ": is \"" + got + "\", due is \"" + want + "\"");
        }
    }

    public static void main(String[] args) {
        newObject();
        type();
        erase();
        fault();
        faultInNumbers();
        faultAtCommandLimit();
        tell();
        tellCommandsThatFail();
        series();
        room();
        lay();
        layLimits();
        take();
        shift();
        shiftLimits();
        stow();
        stowLimits();
        pass();
        undo();
        undoBringsBackAll();
        of();
        box();
        piece();
        gap();
        home();
        where();
        was();
        move();
        trail();
        row();
        clear();
        listed();
        unlisted();
        label();
        labelLimit();
        paper();
        plan();
        planChoices();
        left();
        count();
        if (wrong != 0) {
            System.out.println(wrong + " of " + asked + " answers are wrong");
            System.exit(1);
        }
        System.out.println(asked + " answers are as due");
    }

    // ---- helps

    private static void write(BoxedPapers x, String text) {
        for (int i = 0; i < text.length(); i++) {
            x.type(text.charAt(i));
        }
    }

    private static int faultOf(String text) {
        BoxedPapers x = new BoxedPapers();
        write(x, text);
        return x.fault();
    }

    private static BoxedPapers told(String text) {
        BoxedPapers x = new BoxedPapers();
        write(x, text);
        x.tell();
        return x;
    }

    private static String paperOf(BoxedPapers x) {
        StringBuilder signs = new StringBuilder();
        for (int i = 0; i < x.count(9); i++) {
            signs.append((char) x.paper(i));
        }
        return signs.toString();
    }

    private static String repeat(String part, int times) {
        return part.repeat(times);
    }

    /** An archive with 40 pieces, the sheets 10, 20, .. 400, in box 0, and 40 moves. */
    private static BoxedPapers fortyPieces() {
        BoxedPapers x = new BoxedPapers();
        x.room(0, 1000);
        for (int k = 1; k <= 40; k++) {
            x.lay(0, 10 * k, 10 * k);
        }
        return x;
    }

    // ---- promises

    private static void newObject() {
        BoxedPapers x = new BoxedPapers();
        for (int what = 0; what <= 11; what++) {
            due("1 count(" + what + ")", x.count(what), 0);
        }
        for (int box = 0; box < 8; box++) {
            due("1 room", x.box(box, 0), 0);
            due("1 load", x.box(box, 1), 0);
        }
        due("1 no series", x.of(0, 0), UNKNOWN);
        due("1 sheet in no box", x.where(1), NONE);
        due("1 no home", x.home(1), NONE);
        due("1 empty paper", x.paper(0), NONE);
        due("1 nothing to undo", x.undo(), NOT);
        BoxedPapers other = new BoxedPapers();
        x.pass(5);
        due("1 objects are apart", other.count(3), 0);
    }

    private static void type() {
        BoxedPapers x = new BoxedPapers();
        due("2 type(0)", x.type(0), 1);
        due("2 type(255)", x.type(255), 2);
        due("2 type(256)", x.type(256), OUTSIDE);
        due("2 type(-1)", x.type(-1), OUTSIDE);
        due("2 type(MIN)", x.type(MIN), OUTSIDE);
        due("2 length", x.count(11), 2);
        for (int n = 3; n <= 200; n++) {
            due("2 type", x.type('a'), n);
        }
        due("2 full", x.type('a'), FULL);
        due("2 outside before full", x.type(300), OUTSIDE);
        due("2 length", x.count(11), 200);
    }

    private static void erase() {
        BoxedPapers x = new BoxedPapers();
        due("3 erase empty", x.erase(), 0);
        write(x, "all");
        due("3 erase", x.erase(), 3);
        due("3 erased", x.count(11), 0);
        due("3 type after", x.type('b'), 1);
        due("3 erase again", x.erase(), 1);
        write(x, repeat(" ", 200));
        due("3 erase full", x.erase(), 200);
    }

    private static void fault() {
        due("4 empty", faultOf(""), 0);
        due("4 blanks", faultOf("   "), 3);
        due("4 all", faultOf("all"), NONE);
        due("4 blanks around", faultOf("  all  "), NONE);
        due("4 every command",
                faultOf("all;series 0 1 2;top 1 2;box 7 0;lay 0 1 1;take 1 2;row 7 1 2;pass 999"), NONE);
        due("4 no blank between word and number", faultOf("top1 5;pass3;lay0 1 2"), NONE);
        due("4 many blanks", faultOf("  top   1    5  ;  pass  3  "), NONE);
        due("4 ends behind ;", faultOf("all;"), 4);
        due("4 ends behind ; and blanks", faultOf("all;  "), 6);
        due("4 ;;", faultOf("all;;all"), 4);
        due("4 ; first", faultOf(";all"), 0);
        due("4 unknown word", faultOf(" alle"), 1);
        due("4 prefix of a word", faultOf("al"), 0);
        due("4 longer word", faultOf("allz"), 0);
        due("4 longer word", faultOf("zall"), 0);
        due("4 two words in one", faultOf("allall"), 0);
        due("4 word behind command", faultOf("all all"), 4);
        due("4 number behind command", faultOf("all 1"), 4);
        due("4 number first", faultOf("12"), 0);
        due("4 too many numbers", faultOf("take 1 2 3"), 9);
        due("4 too few numbers at end", faultOf("lay 0 1"), 7);
        due("4 too few numbers, blanks", faultOf("lay 0 1  "), 9);
        due("4 too few numbers, ;", faultOf("lay 0 1;all"), 7);
        due("4 word for number", faultOf("lay x 1 2"), 4);
        due("4 capital letter", faultOf("All"), 0);
        due("4 capital in a word", faultOf("aLl"), 0);
        due("4 word cut by another byte", faultOf("se.ries"), 0);
        due("4 byte 0", faultOf("all\0"), 3);
        due("4 byte 255", faultOf("all" + (char) 255), 3);
        due("4 tab is no blank", faultOf("all\t"), 3);
        due("4 minus", faultOf("pass -1"), 5);
        due("4 comma", faultOf("take 1,2"), 6);
        BoxedPapers x = new BoxedPapers();
        write(x, "all;");
        x.fault();
        due("4 text stays", x.count(11), 4);
    }

    private static void faultInNumbers() {
        due("4 P 9", faultOf("series 9 1 2"), NONE);
        due("4 P 10", faultOf("series 10 1 2"), 7);
        due("4 X 7", faultOf("box 7 1"), NONE);
        due("4 X 8 box", faultOf("box 8 1"), 4);
        due("4 X 8 lay", faultOf("lay 8 1 1"), 4);
        due("4 X 8 row", faultOf("row 8 1 1"), 4);
        due("4 A 0", faultOf("take 0 1"), 5);
        due("4 A 2000000000", faultOf("take 2000000000 2000000000"), NONE);
        due("4 A 2000000001", faultOf("take 2000000001 2000000001"), 5);
        due("4 B below A", faultOf("take 5 4"), 7);
        due("4 B = A", faultOf("take 5 5"), NONE);
        due("4 B too large", faultOf("take 5 2000000001"), 7);
        due("4 B 9999999999", faultOf("take 5 9999999999"), 7);
        due("4 B as int would be small", faultOf("take 1 4294967297"), 7);
        due("4 R 0", faultOf("box 0 0"), NONE);
        due("4 R 2000000000", faultOf("box 0 2000000000"), NONE);
        due("4 R 2000000001", faultOf("box 0 2000000001"), 6);
        due("4 N 0", faultOf("pass 0"), 5);
        due("4 N 999", faultOf("pass 999"), NONE);
        due("4 N 1000", faultOf("pass 1000"), 5);
        due("4 ten digits", faultOf("pass 0000000001"), NONE);
        due("4 eleven digits", faultOf("pass 00000000001"), 5);
        due("4 many digits", faultOf("pass " + repeat("0", 194) + "1"), 5);
        due("4 digits that wrap", faultOf("pass 18446744073709551617"), 5);
        due("4 no number where 0 is allowed", faultOf("box"), 3);
        due("4 no number where 0 is allowed", faultOf("box 0"), 5);
        due("4 no number where 0 is allowed", faultOf("box 0;all"), 5);
        due("4 no number where 0 is allowed", faultOf("series;all"), 6);
        due("4 no number where 0 is allowed", faultOf("row x"), 4);
        due("4 second command", faultOf("top 1 5;top 7 6"), 14);
    }

    private static void faultAtCommandLimit() {
        due("4 24 commands", faultOf("all" + repeat(";all", 23)), NONE);
        due("4 25 commands", faultOf("all" + repeat(";all", 24)), 95);
        due("4 ; behind the 24th", faultOf("all" + repeat(";all", 23) + " ;"), 96);
        due("4 word behind the 24th", faultOf("all" + repeat(";all", 23) + " x"), 96);
        due("4 fault before the limit", faultOf("x" + repeat(";all", 24)), 0);
        due("4 200 bytes", faultOf(repeat(" ", 197) + "all"), NONE);
        due("4 200 bytes, too early", faultOf(repeat(" ", 197) + "top"), 200);
    }

    private static void tell() {
        BoxedPapers x = new BoxedPapers();
        due("5 empty", x.tell(), NOT);
        write(x, "top 1 100;series 0 10 20;box 2 50;lay 2 5 14;take 6 7;row 2 1 9;pass 12");
        x.room(7, 3);
        due("5 tell", x.tell(), 7);
        due("5 text empty", x.count(11), 0);
        due("5 nothing to undo", x.count(10), 0);
        due("5 undo", x.undo(), NOT);
        due("5 series", x.count(0), 2);
        due("5 top parent", x.of(0, 0), NONE);
        due("5 top last", x.of(0, 2), 100);
        due("5 child", x.of(1, 0), 0);
        due("5 child first", x.of(1, 1), 10);
        due("5 room", x.box(2, 0), 50);
        due("5 room by call stays", x.box(7, 0), 3);
        due("5 load", x.box(2, 1), 8);
        due("5 take", x.where(6), NONE);
        due("5 moves", x.count(2), 2);
        due("5 row", x.listed(0, 0), 2);
        due("5 row last", x.listed(0, 2), 9);
        due("5 day", x.count(3), 12);
        x.pass(1);
        write(x, "pass 3;");
        due("5 fault", x.tell(), NOT);
        due("5 text stays", x.count(11), 7);
        due("5 undo stays", x.count(10), 1);
        due("5 day stays", x.count(3), 13);
        x.label(2);
        x.erase();
        write(x, "pass 9;all;pass 4");
        due("5 all", x.tell(), 3);
        for (int what = 0; what <= 11; what++) {
            due("5 count(" + what + ") after all", x.count(what), what == 3 ? 4 : 0);
        }
        due("5 room after all", x.box(2, 0), 0);
    }

    private static void tellCommandsThatFail() {
        BoxedPapers x = told("series 0 1 2;top 5 9;top 9 10;series 0 5 10;box 0 5;lay 0 1 6;lay 0 1 5;box 0 4;lay 1 1 1");
        due("5 only one series", x.count(0), 1);
        due("5 only one move", x.count(2), 1);
        due("5 room not below load", x.box(0, 0), 5);
        due("5 load", x.box(0, 1), 5);
        x = told("row 0 1 1" + repeat(";row 0 1 1", 12));
        due("5 rows", x.count(4), 12);
        write(x, "pass 1");
        due("5 tell again", x.tell(), 1);
        due("5 rows stay", x.count(4), 12);
    }

    private static void series() {
        BoxedPapers x = new BoxedPapers();
        due("6 no parent yet", x.series(0, 1, 5), UNKNOWN);
        due("6 parent -2", x.series(-2, 1, 5), UNKNOWN);
        due("6 parent MIN", x.series(MIN, 1, 5), UNKNOWN);
        due("6 unknown before outside", x.series(3, 0, 5), UNKNOWN);
        due("6 a 0", x.series(-1, 0, 5), OUTSIDE);
        due("6 b too large", x.series(-1, 1, TOP + 1), OUTSIDE);
        due("6 a > b", x.series(-1, 6, 5), OUTSIDE);
        due("6 b MIN", x.series(-1, 6, MIN), OUTSIDE);
        due("6 first", x.series(-1, 10, 100), 0);
        due("6 touches below", x.series(-1, 1, 10), NOT);
        due("6 beside", x.series(-1, 1, 9), 1);
        due("6 touches above", x.series(-1, 100, 200), NOT);
        due("6 around", x.series(-1, 1, 200), NOT);
        due("6 not within, below", x.series(0, 9, 20), NOT);
        due("6 not within, above", x.series(0, 90, 101), NOT);
        due("6 whole parent", x.series(0, 10, 100), 2);
        due("6 sibling", x.series(0, 50, 50), NOT);
        due("6 grandchild", x.series(2, 50, 60), 3);
        due("6 sibling beside", x.series(2, 61, 61), 4);
        due("6 outside before not", x.series(2, 61, 60), OUTSIDE);
        for (int k = 5; k < 10; k++) {
            due("6 more", x.series(-1, 1000 + k, 1000 + k), k);
        }
        due("6 full", x.series(-1, 2000, 2000), FULL);
        due("6 not before full", x.series(-1, 1005, 1005), NOT);
        due("6 unknown parent before full", x.series(10, 2000, 2000), UNKNOWN);
        due("6 number of series", x.count(0), 10);
    }

    private static void room() {
        BoxedPapers x = new BoxedPapers();
        due("7 room", x.room(0, 5), 0);
        due("7 previous", x.room(0, TOP), 5);
        due("7 previous", x.room(0, 0), TOP);
        due("7 box 8", x.room(8, 5), UNKNOWN);
        due("7 box -1", x.room(-1, 5), UNKNOWN);
        due("7 unknown before outside", x.room(8, -1), UNKNOWN);
        due("7 r -1", x.room(7, -1), OUTSIDE);
        due("7 r too large", x.room(7, TOP + 1), OUTSIDE);
        due("7 box 7", x.room(7, 4), 0);
        x.lay(7, 1, 3);
        due("7 below load", x.room(7, 2), NOT);
        due("7 outside before not", x.room(7, -2), OUTSIDE);
        due("7 stays", x.box(7, 0), 4);
        due("7 at load", x.room(7, 3), 4);
    }

    private static void lay() {
        BoxedPapers x = new BoxedPapers();
        due("8 no room", x.lay(0, 1, 1), FULL);
        x.room(0, 10);
        x.room(1, 10);
        due("8 lay", x.lay(0, 11, 20), 10);
        due("8 same again", x.lay(0, 11, 20), 0);
        due("8 part again", x.lay(0, 12, 13), 0);
        due("8 one too many", x.lay(0, 20, 21), FULL);
        due("8 from another box", x.lay(1, 15, 16), 2);
        due("8 moves", x.count(2), 4);
        due("8 pieces", x.count(1), 3);
        due("8 part new", x.lay(1, 14, 18), 3);
        due("8 both sides", x.lay(1, 9, 12), 4);
        due("8 where", x.where(11), 1);
        due("8 where", x.where(13), 0);
        due("8 load", x.box(0, 1), 3);
        due("8 merges", x.lay(1, 13, 13), 1);
        due("8 one piece", x.count(1), 2);
        due("8 box 8", x.lay(8, 1, 1), UNKNOWN);
        due("8 box -1", x.lay(-1, 1, 1), UNKNOWN);
        due("8 unknown before outside", x.lay(8, 0, 0), UNKNOWN);
        due("8 a 0", x.lay(0, 0, 1), OUTSIDE);
        due("8 b too large", x.lay(0, 1, TOP + 1), OUTSIDE);
        due("8 b < a", x.lay(0, 2, 1), OUTSIDE);
        due("8 outside before full", x.lay(2, 2, 1), OUTSIDE);
    }

    private static void layLimits() {
        BoxedPapers x = fortyPieces();
        x.room(1, TOP);
        due("8 41st piece", x.lay(0, 500, 500), FULL);
        due("8 41st piece in another box", x.lay(1, 11, 11), FULL);
        due("8 longer piece", x.lay(0, 11, 11), 1);
        due("8 joins two", x.lay(0, 12, 19), 8);
        due("8 39 pieces", x.count(1), 39);
        due("8 splits into 41", x.lay(1, 15, 15), FULL);
        due("8 splits into 40", x.lay(1, 10, 11), 2);
        due("8 all into one", x.lay(1, 1, TOP), TOP - 2);
        due("8 one piece", x.count(1), 1);
        due("8 others empty", x.box(0, 1), 0);
        for (int n = x.count(2); n < 100; n++) {
            due("8 lay", x.lay(1, 1, 1), 0);
        }
        due("8 101st move", x.lay(1, 1, 1), FULL);
        due("8 moves", x.count(2), 100);
    }

    private static void take() {
        BoxedPapers x = new BoxedPapers();
        due("9 from none", x.take(1, TOP), 0);
        due("9 is a move", x.count(2), 1);
        x.room(0, 100);
        x.room(1, 100);
        x.lay(0, 1, 10);
        x.lay(1, 21, 30);
        due("9 from two boxes", x.take(9, 22), 4);
        due("9 again", x.take(9, 22), 0);
        due("9 splits", x.take(3, 3), 1);
        due("9 pieces", x.count(1), 3);
        due("9 a 0", x.take(0, 1), OUTSIDE);
        due("9 b too large", x.take(1, TOP + 1), OUTSIDE);
        due("9 b < a", x.take(2, 1), OUTSIDE);
        due("9 MIN", x.take(MIN, MAX), OUTSIDE);
        BoxedPapers y = fortyPieces();
        y.take(10, 10);
        y.lay(0, 18, 20);
        y.lay(0, 5, 5);
        due("9 41st piece", y.take(19, 19), FULL);
        due("9 shortens", y.take(18, 18), 1);
        for (int n = y.count(2); n < 100; n++) {
            due("9 take", y.take(TOP, TOP), 0);
        }
        due("9 101st move", y.take(1, 1), FULL);
        due("9 outside before full", y.take(0, 1), OUTSIDE);
    }

    private static void shift() {
        BoxedPapers x = told("box 0 50;box 1 6;box 2 50;lay 0 1 2;lay 1 3 3;lay 0 4 5;lay 2 6 6;lay 0 9 9;pass 4");
        due("10 box 8", x.shift(8, 0), UNKNOWN);
        due("10 to 8", x.shift(0, 8), UNKNOWN);
        due("10 from -1", x.shift(-1, 0), UNKNOWN);
        due("10 same", x.shift(0, 0), UNKNOWN);
        due("10 fills", x.shift(0, 1), 3);
        due("10 load", x.box(1, 1), 6);
        due("10 from is empty", x.box(0, 1), 0);
        due("10 merged", x.count(1), 3);
        due("10 moves", x.count(2), 8);
        int[] ends = {1, 2, 4, 5, 9, 9};
        for (int k = 0; k < 3; k++) {
            due("10 move's day", x.move(5 + k, 0), 4);
            due("10 move's first", x.move(5 + k, 1), ends[2 * k]);
            due("10 move's last", x.move(5 + k, 2), ends[2 * k + 1]);
            due("10 move's box", x.move(5 + k, 3), 1);
        }
        due("10 empty box", x.shift(7, 6), 0);
        due("10 empty box is no move", x.count(2), 8);
        due("10 empty box can be undone", x.count(10), 2);
        due("10 full", x.shift(2, 1), FULL);
        due("10 nothing changed", x.box(2, 1), 1);
    }

    private static void shiftLimits() {
        BoxedPapers x = fortyPieces();
        x.room(1, 1000);
        for (int n = 40; n < 61; n++) {
            x.lay(0, 10, 10);
        }
        due("10 too many moves", x.shift(0, 1), FULL);
        due("10 moves stay", x.count(2), 61);
        x.undo();
        due("10 just enough moves", x.shift(0, 1), 40);
        due("10 moves", x.count(2), 100);
        due("10 empty box without a move", x.shift(0, 1), 0);
        BoxedPapers y = told("box 0 2000000000;lay 0 1 2000000000;box 1 1999999999");
        due("10 load by one too large", y.shift(0, 1), FULL);
        y.room(1, TOP);
        due("10 whole", y.shift(0, 1), 1);
    }

    private static void stow() {
        BoxedPapers x = told("top 1 100;series 0 20 29;box 0 50;box 3 8;lay 0 15 24;pass 7");
        due("11 unknown", x.stow(2), UNKNOWN);
        due("11 unknown -1", x.stow(-1), UNKNOWN);
        due("11 stow", x.stow(0), 3);
        due("11 moves", x.count(2), 4);
        due("11 day", x.move(1, 0), 7);
        due("11 first laying", x.move(1, 2), 14);
        due("11 second laying", x.move(2, 2), 50);
        due("11 second box", x.move(2, 3), 0);
        due("11 third laying", x.move(3, 2), 58);
        due("11 third box", x.move(3, 3), 3);
        due("11 left", x.of(0, 6), 42);
        due("11 nothing free", x.stow(0), 0);
        due("11 can be undone", x.count(10), 2);
        due("11 child is full", x.stow(1), 0);
        due("11 undo", x.undo(), 2);
        due("11 undo", x.undo(), 1);
        due("11 undo", x.undo(), 0);
        due("11 as before", x.of(0, 6), 90);
    }

    private static void stowLimits() {
        BoxedPapers x = fortyPieces();
        x.room(0, 40);
        x.series(-1, 11, 399);
        x.room(1, 5);
        x.room(2, 1000);
        due("11 pieces", x.plan(0, NONE, 0), 39);
        due("11 too many pieces", x.stow(0), FULL);
        due("11 none is done", x.of(0, 6), 351);
        due("11 moves stay", x.count(2), 40);
        due("11 pieces stay", x.count(1), 40);
        due("11 undo stays", x.count(10), 8);
        x.room(2, 0);
        x.room(1, 0);
        x.room(0, 1000);
        due("11 into the same box", x.stow(0), 39);
        due("11 one piece", x.count(1), 1);
        BoxedPapers y = told("top 1 100;box 0 100;lay 0 5 5;lay 0 7 7;lay 0 9 9");
        for (int n = 3; n < 97; n++) {
            y.lay(0, 5, 5);
        }
        due("11 four layings", y.plan(0, NONE, 0), 4);
        due("11 too many moves", y.stow(0), FULL);
        due("11 moves", y.count(2), 97);
        due("11 load", y.box(0, 1), 3);
        y.undo();
        due("11 just enough moves", y.stow(0), 4);
        due("11 no move needed", y.stow(0), 0);
    }

    private static void pass() {
        BoxedPapers x = new BoxedPapers();
        due("12 pass", x.pass(1), 1);
        due("12 pass", x.pass(999), 1000);
        due("12 0", x.pass(0), OUTSIDE);
        due("12 1000", x.pass(1000), OUTSIDE);
        due("12 -1", x.pass(-1), OUTSIDE);
        due("12 day", x.count(3), 1000);
    }

    private static void undo() {
        BoxedPapers x = new BoxedPapers();
        due("13 none", x.undo(), NOT);
        for (int n = 1; n <= 10; n++) {
            x.pass(1);
            due("13 at most 8", x.count(10), Math.min(n, 8));
        }
        for (int n = 7; n >= 0; n--) {
            due("13 undo", x.undo(), n);
            due("13 day", x.count(3), n + 2);
        }
        due("13 no more", x.undo(), NOT);
        due("13 day stays", x.count(3), 2);
        x.pass(5);
        x.pass(6);
        x.undo();
        x.pass(7);
        due("13 two again", x.count(10), 2);
        due("13 undo", x.undo(), 1);
        due("13 day", x.count(3), 7);
        due("13 undo", x.undo(), 0);
        due("13 day", x.count(3), 2);
        x.pass(0);
        x.room(8, 1);
        x.lay(0, 1, 1);
        due("13 failed calls do not count", x.count(10), 0);
        x.room(0, 0);
        x.take(5, 5);
        due("13 calls without difference count", x.count(10), 2);
        due("13 undo take", x.undo(), 1);
        due("13 moves", x.count(2), 0);
    }

    private static void undoBringsBackAll() {
        BoxedPapers x = told("top 1 100;box 0 50;box 1 50;lay 0 1 10");
        x.series(0, 3, 4);
        x.room(2, 9);
        x.lay(1, 5, 6);
        x.take(9, 9);
        x.shift(1, 0);
        x.stow(0);
        x.pass(3);
        x.row(0, 1, 1);
        x.label(0);
        int signs = x.count(9);
        due("13 pass", x.undo(), 6);
        due("13 day", x.count(3), 0);
        due("13 stow", x.undo(), 5);
        due("13 load", x.box(0, 1), 9);
        due("13 shift", x.undo(), 4);
        due("13 where", x.where(5), 1);
        due("13 take", x.undo(), 3);
        due("13 where", x.where(9), 0);
        due("13 trail", x.trail(9, NONE), 1);
        due("13 lay", x.undo(), 2);
        due("13 where", x.where(5), 0);
        due("13 moves", x.count(2), 1);
        due("13 room", x.undo(), 1);
        due("13 room", x.box(2, 0), 0);
        due("13 series", x.undo(), 0);
        due("13 series", x.count(0), 1);
        due("13 children", x.of(0, 4), 0);
        due("13 list stays", x.count(4), 1);
        due("13 paper stays", x.count(9), signs);
        due("13 series again", x.series(0, 7, 8), 1);
        due("13 other range", x.of(1, 1), 7);
    }

    private static void of() {
        BoxedPapers x = told("top 11 100;top 1 10;series 0 11 20;series 0 31 40;series 3 33 34;"
                + "box 0 9;box 7 50;lay 0 9 12;lay 7 40 41;lay 7 100 102");
        int[] due = {NONE, 11, 100, 70, 12, 129, 85, 2};
        for (int what = 0; what < 8; what++) {
            due("14 of(0, " + what + ")", x.of(0, what), due[what]);
        }
        due("14 -1", x.of(0, -1), OUTSIDE);
        due("14 8", x.of(0, 8), OUTSIDE);
        due("14 unknown", x.of(5, 0), UNKNOWN);
        due("14 unknown first", x.of(-1, 9), UNKNOWN);
        due("14 parent", x.of(4, 0), 3);
        due("14 own", x.of(3, 3), 8);
        due("14 children", x.of(3, 4), 16);
        due("14 no boxes", x.of(4, 5), 0);
        due("14 one gap", x.of(4, 7), 1);
        x.series(4, 33, 34);
        due("14 no own sheets", x.of(4, 3), 0);
        due("14 boxes", x.of(1, 5), 1);
        due("14 out of boxes", x.of(1, 6), 8);
        x.lay(7, 33, 34);
        due("14 no gap", x.of(5, 7), 0);
        due("14 none out", x.of(5, 6), 0);
        BoxedPapers y = told("top 1 2000000000");
        due("14 all sheets", y.of(0, 3), TOP);
        due("14 all out", y.of(0, 6), TOP);
    }

    private static void box() {
        BoxedPapers x = told("top 1 50;series 0 10 20;box 3 40;lay 3 15 16;lay 3 60 61;lay 3 30 30;box 0 1;lay 0 29 29");
        int[] due = {40, 5, 3, 3, 15, 61};
        for (int what = 0; what < 6; what++) {
            due("15 box(3, " + what + ")", x.box(3, what), due[what]);
        }
        due("15 -1", x.box(3, -1), OUTSIDE);
        due("15 6", x.box(3, 6), OUTSIDE);
        due("15 box 8", x.box(8, 0), UNKNOWN);
        due("15 unknown first", x.box(-1, 9), UNKNOWN);
        due("15 empty lowest", x.box(7, 4), NONE);
        due("15 empty highest", x.box(7, 5), NONE);
        due("15 empty set", x.box(7, 3), 0);
        due("15 only the parent", x.box(0, 3), 1);
        x.take(30, 30);
        due("15 only the child", x.box(3, 3), 2);
        x.take(15, 16);
        due("15 only sheets without home", x.box(3, 3), 0);
        due("15 lowest behind another box", x.box(3, 4), 60);
        due("15 highest before another box", x.box(0, 5), 29);
    }

    private static void piece() {
        BoxedPapers x = told("box 0 40;box 1 40;lay 1 15 16;lay 0 5 6;lay 0 17 17;lay 1 7 7;lay 0 18 20");
        int[][] due = {{5, 6, 0}, {7, 7, 1}, {15, 16, 1}, {17, 20, 0}};
        for (int k = 0; k < 4; k++) {
            for (int what = 0; what < 3; what++) {
                due("16 piece(" + k + ", " + what + ")", x.piece(k, what), due[k][what]);
            }
        }
        due("16 4", x.piece(4, 0), UNKNOWN);
        due("16 -1", x.piece(-1, 0), UNKNOWN);
        due("16 unknown first", x.piece(4, 3), UNKNOWN);
        due("16 what 3", x.piece(0, 3), OUTSIDE);
        due("16 what -1", x.piece(0, -1), OUTSIDE);
    }

    private static void gap() {
        BoxedPapers x = told("top 5 20;box 0 40;box 1 40;lay 0 1 6;lay 0 9 10;lay 1 11 11;lay 1 15 15");
        int[][] due = {{7, 8}, {12, 14}, {16, 20}};
        for (int k = 0; k < 3; k++) {
            due("17 first", x.gap(0, k, 0), due[k][0]);
            due("17 last", x.gap(0, k, 1), due[k][1]);
        }
        due("17 3", x.gap(0, 3, 0), UNKNOWN);
        due("17 -1", x.gap(0, -1, 0), UNKNOWN);
        due("17 no series", x.gap(1, 0, 0), UNKNOWN);
        due("17 unknown gap first", x.gap(0, 3, 2), UNKNOWN);
        due("17 unknown series first", x.gap(1, 0, 2), UNKNOWN);
        due("17 what 2", x.gap(0, 0, 2), OUTSIDE);
        due("17 what -1", x.gap(0, 0, -1), OUTSIDE);
        x.take(20, 30);
        x.lay(0, 20, 30);
        due("17 up to the piece", x.gap(0, 2, 1), 19);
        x.take(20, 20);
        x.lay(0, 16, 19);
        due("17 one sheet at the end", x.gap(0, 2, 0), 20);
        x.series(-1, 500, TOP);
        due("17 whole range", x.gap(1, 0, 1), TOP);
        BoxedPapers y = fortyPieces();
        y.series(-1, 1, TOP);
        due("17 41 gaps", y.of(0, 7), 41);
        due("17 last gap", y.gap(0, 40, 0), 401);
    }

    private static void home() {
        BoxedPapers x = told("top 10 20;series 0 12 18;series 1 14 15;series 0 20 20;top 1 3");
        int[] sheets = {1, 3, 4, 9, 10, 11, 12, 13, 14, 15, 16, 18, 19, 20, 21, TOP};
        int[] due = {4, 4, NONE, NONE, 0, 0, 1, 1, 2, 2, 1, 1, 0, 3, NONE, NONE};
        for (int i = 0; i < sheets.length; i++) {
            due("18 home(" + sheets[i] + ")", x.home(sheets[i]), due[i]);
        }
        due("18 0", x.home(0), OUTSIDE);
        due("18 too large", x.home(TOP + 1), OUTSIDE);
        due("18 MIN", x.home(MIN), OUTSIDE);
    }

    private static void where() {
        BoxedPapers x = told("box 0 5;box 7 5;lay 0 3 5;lay 7 5 6;take 4 4;lay 7 2000000000 2000000000");
        due("19 2", x.where(2), NONE);
        due("19 3", x.where(3), 0);
        due("19 4", x.where(4), NONE);
        due("19 5", x.where(5), 7);
        due("19 6", x.where(6), 7);
        due("19 7", x.where(7), NONE);
        due("19 last", x.where(TOP), 7);
        due("19 0", x.where(0), OUTSIDE);
        due("19 too large", x.where(TOP + 1), OUTSIDE);
        due("19 MAX", x.where(MAX), OUTSIDE);
    }

    private static void was() {
        BoxedPapers x = told("box 0 5;box 1 5;pass 2;lay 0 1 3;lay 1 2 2;pass 3;take 1 1;pass 1;lay 1 1 1;pass 4");
        due("20 before", x.was(1, 0), NONE);
        due("20 before", x.was(1, 1), NONE);
        due("20 on the day", x.was(1, 2), 0);
        due("20 last move of the day", x.was(2, 2), 1);
        due("20 between", x.was(1, 4), 0);
        due("20 taken", x.was(1, 5), NONE);
        due("20 laid", x.was(1, 6), 1);
        due("20 later", x.was(1, MAX), 1);
        due("20 day -1", x.was(1, -1), OUTSIDE);
        due("20 sheet 0", x.was(0, 1), OUTSIDE);
        due("20 sheet too large", x.was(TOP + 1, 1), OUTSIDE);
        due("20 other sheet", x.was(4, 9), NONE);
    }

    private static void move() {
        BoxedPapers x = told("box 4 5;lay 4 1 3;pass 6;take 2 9");
        int[][] due = {{0, 1, 3, 4}, {6, 2, 9, NONE}};
        for (int k = 0; k < 2; k++) {
            for (int what = 0; what < 4; what++) {
                due("21 move(" + k + ", " + what + ")", x.move(k, what), due[k][what]);
            }
        }
        due("21 2", x.move(2, 0), UNKNOWN);
        due("21 -1", x.move(-1, 0), UNKNOWN);
        due("21 unknown first", x.move(2, 4), UNKNOWN);
        due("21 what 4", x.move(0, 4), OUTSIDE);
        due("21 what -1", x.move(0, -1), OUTSIDE);
    }

    private static void trail() {
        BoxedPapers x = told("box 0 5;box 1 5;take 1 5;lay 0 1 3;lay 0 2 3;lay 1 3 3;take 3 9;take 3 3;lay 1 3 3");
        due("22 number", x.trail(3, NONE), 4);
        int[] due = {1, 3, 4, 6, NONE};
        for (int k = 0; k < due.length; k++) {
            due("22 trail(3, " + k + ")", x.trail(3, k), due[k]);
        }
        due("22 one move", x.trail(2, NONE), 1);
        due("22 no move", x.trail(5, NONE), 0);
        due("22 no index", x.trail(5, 0), NONE);
        due("22 MAX", x.trail(3, MAX), NONE);
        due("22 k -2", x.trail(3, -2), OUTSIDE);
        due("22 sheet 0", x.trail(0, NONE), OUTSIDE);
        due("22 sheet too large", x.trail(TOP + 1, 0), OUTSIDE);
    }

    private static void row() {
        BoxedPapers x = new BoxedPapers();
        due("23 box 8", x.row(8, 1, 1), UNKNOWN);
        due("23 box -1", x.row(-1, 1, 1), UNKNOWN);
        due("23 unknown first", x.row(8, 0, 1), UNKNOWN);
        due("23 a 0", x.row(0, 0, 1), OUTSIDE);
        due("23 b too large", x.row(0, 1, TOP + 1), OUTSIDE);
        due("23 b < a", x.row(0, 2, 1), OUTSIDE);
        for (int k = 0; k < 12; k++) {
            due("23 row", x.row(7, 1, TOP), k);
        }
        due("23 full", x.row(0, 1, 1), FULL);
        due("23 outside before full", x.row(0, 2, 1), OUTSIDE);
        due("23 rows", x.count(4), 12);
        due("23 no undo", x.count(10), 0);
    }

    private static void clear() {
        BoxedPapers x = new BoxedPapers();
        due("24 none", x.clear(), 0);
        x.row(0, 1, 1);
        x.row(1, 1, 1);
        due("24 clear", x.clear(), 2);
        due("24 rows", x.count(4), 0);
        due("24 unknown", x.listed(0, 0), UNKNOWN);
        due("24 again", x.row(2, 3, 4), 0);
        due("24 new row", x.listed(0, 0), 2);
    }

    private static void listed() {
        BoxedPapers x = told("box 0 50;box 1 50;lay 0 1 4;lay 1 5 7;lay 0 9 12;row 0 3 10;row 0 1 5;row 1 10 20;row 1 21 22;row 2 10 21");
        int[][] due = {{0, 3, 10, 4, 3, 2}, {0, 1, 5, 4, 1, NONE}, {1, 10, 20, 0, 3, 0},
            {1, 21, 22, 0, 0, 4}, {2, 10, 21, 0, 3, 0}};
        for (int k = 0; k < due.length; k++) {
            for (int what = 0; what < 6; what++) {
                due("25 listed(" + k + ", " + what + ")", x.listed(k, what), due[k][what]);
            }
        }
        due("25 5", x.listed(5, 0), UNKNOWN);
        due("25 -1", x.listed(-1, 0), UNKNOWN);
        due("25 unknown first", x.listed(5, 6), UNKNOWN);
        due("25 what 6", x.listed(0, 6), OUTSIDE);
        due("25 what -1", x.listed(0, -1), OUTSIDE);
    }

    private static void unlisted() {
        BoxedPapers x = told("box 0 90;box 1 50;lay 0 1 20;lay 1 21 30;lay 0 31 40");
        due("26 no rows", x.unlisted(0), 30);
        x.row(0, 12, 14);
        x.row(0, 5, 9);
        x.row(0, 8, 12);
        due("26 rows with common sheets", x.unlisted(0), 20);
        x.row(1, 1, 4);
        due("26 row for another box", x.unlisted(0), 20);
        x.row(0, 20, 31);
        due("26 over three pieces", x.unlisted(0), 18);
        due("26 other box", x.unlisted(1), 10);
        x.row(1, 22, 29);
        due("26 one sheet at each end", x.unlisted(1), 2);
        x.row(1, 1, TOP);
        due("26 all listed", x.unlisted(1), 0);
        due("26 empty box", x.unlisted(7), 0);
        due("26 box 8", x.unlisted(8), UNKNOWN);
        due("26 box -1", x.unlisted(-1), UNKNOWN);
    }

    private static void label() {
        BoxedPapers x = told("top 11 50;series 0 20 29;series 0 30 32;series 1 20 20;box 2 2000000000;lay 2 15 34;lay 2 50 50");
        due("27 label", x.label(2), 37);
        due("27 text", paperOf(x), "0:15-19,33-34,50;1:21-29;2:30-32;3:20");
        x.lay(2, 1, 1);
        x.lay(2, 51, 53);
        x.take(20, 20);
        x.label(2);
        due("27 without home", paperOf(x), "0:15-19,33-34,50;1:21-29;2:30-32;x:1,51-53");
        x.lay(2, 1, TOP);
        x.label(2);
        due("27 all sheets", paperOf(x), "0:11-19,33-50;1:21-29;2:30-32;3:20;x:1-10,51-2000000000");
        due("27 empty box", x.label(0), 0);
        due("27 empty paper", x.count(9), 0);
        due("27 box 8", x.label(8), UNKNOWN);
        due("27 box -1", x.label(-1), UNKNOWN);
        x.series(0, 11, 19);
        x.take(1, TOP);
        x.lay(2, 11, 19);
        x.label(2);
        due("27 only the child", paperOf(x), "4:11-19");
    }

    private static void labelLimit() {
        BoxedPapers x = told("box 0 500;lay 0 1 1");
        for (int k = 0; k < 17; k++) {
            x.lay(0, 1000000000 + 2 * k, 1000000000 + 2 * k);
        }
        due("27 long", x.label(0), 190);
        x.lay(0, 100000000, 100000000);
        due("27 exactly 200", x.label(0), 200);
        due("27 last sign", x.paper(199), '2');
        due("27 no sign", x.paper(200), NONE);
        x.take(100000000, 100000000);
        x.lay(0, 1100000000, 1100000000);
        due("27 201", x.label(0), FULL);
        x.lay(0, 1200000000, 1200000000);
        due("27 more", x.label(0), FULL);
        due("27 paper stays", x.count(9), 200);
        due("27 paper stays", x.paper(4), '1');
        due("27 paper stays", x.paper(199), '2');
    }

    private static void paper() {
        BoxedPapers x = told("box 0 5;lay 0 7 8");
        due("28 empty", x.paper(0), NONE);
        due("28 label", x.label(0), 5);
        due("28 text", paperOf(x), "x:7-8");
        due("28 5", x.paper(5), NONE);
        due("28 -1", x.paper(-1), NONE);
        due("28 MIN", x.paper(MIN), NONE);
        due("28 MAX", x.paper(MAX), NONE);
        x.label(1);
        due("28 empty again", x.paper(0), NONE);
    }

    private static void plan() {
        BoxedPapers x = told("top 1 100;series 0 20 29;box 0 50;box 3 8;lay 0 15 24");
        int[][] due = {{1, 14, 0}, {25, 50, 0}, {51, 58, 3}};
        due("29 number", x.plan(0, NONE, 99), 3);
        for (int k = 0; k < 3; k++) {
            for (int what = 0; what < 3; what++) {
                due("29 plan(0, " + k + ", " + what + ")", x.plan(0, k, what), due[k][what]);
            }
        }
        due("29 child", x.plan(1, NONE, MIN), 1);
        due("29 child's box", x.plan(1, 0, 2), 3);
        due("29 no laying", x.plan(0, 3, 0), NONE);
        due("29 unknown", x.plan(2, NONE, 0), UNKNOWN);
        due("29 unknown first", x.plan(-1, -2, 0), UNKNOWN);
        due("29 k -2", x.plan(0, -2, 0), OUTSIDE);
        due("29 what 3", x.plan(0, 0, 3), OUTSIDE);
        due("29 what -1", x.plan(0, 0, -1), OUTSIDE);
        due("29 outside before none", x.plan(0, 3, 3), OUTSIDE);
        due("29 changes nothing", x.count(2), 1);
    }

    private static void planChoices() {
        BoxedPapers x = told("top 1 30;box 1 10;box 2 7;box 4 7;box 5 30;box 6 12;box 6 10");
        due("29 only box that holds all", x.plan(0, 0, 2), 5);
        x.room(5, 0);
        int[][] due = {{1, 10, 1}, {11, 20, 6}, {21, 27, 2}, {28, 30, 4}};
        due("29 number", x.plan(0, NONE, 0), 4);
        for (int k = 0; k < due.length; k++) {
            for (int what = 0; what < 3; what++) {
                due("29 plan(0, " + k + ", " + what + ")", x.plan(0, k, what), due[k][what]);
            }
        }
        x.series(0, 1, 7);
        due("29 least free, lowest number", x.plan(1, 0, 2), 2);
        x.series(0, 8, 15);
        due("29 least of the larger", x.plan(2, 0, 2), 1);
        BoxedPapers y = told("top 1 40;box 0 3;box 1 3;lay 0 10 10;lay 1 20 20");
        due("29 rest of a gap stays", y.plan(0, NONE, 0), 2);
        due("29 first", y.plan(0, 1, 0), 3);
        due("29 last", y.plan(0, 1, 1), 4);
        due("29 no room", told("top 1 40").plan(0, NONE, 0), 0);
        BoxedPapers z = told("top 1 2000000000;box 0 2000000000;box 1 2000000000");
        due("29 all sheets", z.plan(0, 0, 1), TOP);
        due("29 in one box", z.plan(0, 0, 2), 0);
    }

    private static void left() {
        BoxedPapers x = told("top 1 100;series 0 20 29;box 0 50;box 3 8;lay 0 15 24");
        due("30 left", x.left(0), 42);
        due("30 nothing left", x.left(1), 0);
        due("30 unknown", x.left(2), UNKNOWN);
        due("30 -1", x.left(-1), UNKNOWN);
        x.room(0, 10);
        x.room(3, 0);
        due("30 no room", x.left(0), 90);
        due("30 all sheets", told("top 1 2000000000").left(0), TOP);
        due("30 one less", told("top 1 2000000000;box 5 1").left(0), TOP - 1);
    }

    private static void count() {
        BoxedPapers x = told("top 11 20;series 0 12 13;box 0 9;box 5 9;lay 0 9 12;lay 5 20 21;take 10 10;pass 8;"
                + "row 0 1 5;row 1 5 6;row 2 5 5;row 2 7 7");
        x.pass(1);
        x.label(5);
        x.type(0);
        int[] due = {2, 3, 3, 9, 4, 5, 2, 2, 3, 9, 1, 1};
        for (int what = 0; what < 12; what++) {
            due("31 count(" + what + ")", x.count(what), due[what]);
        }
        due("31 text", paperOf(x), "0:20;x:21");
        due("31 12", x.count(12), OUTSIDE);
        due("31 -1", x.count(-1), OUTSIDE);
        due("31 MIN", x.count(MIN), OUTSIDE);
        BoxedPapers y = told("box 0 2000000000;lay 0 1 2000000000");
        due("31 all sheets", y.count(5), TOP);
        due("31 none has a home", y.count(6), TOP);
    }
}
