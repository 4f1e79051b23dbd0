/** The three examples of the document, each on a new object. */
public final class ExamplesTest {
    private static int wrong = 0;

    private static void due(String call, int got, int want) {
        if (got != want) {
            wrong++;
            System.out.println(call + " answered " + got + ", due is " + want);
        }
    }

    public static void main(String[] args) {
        planAndLabel();
        trailAndList();
        textThatBeginsAnew();
        if (wrong != 0) {
            System.exit(1);
        }
        System.out.println("the examples are as due");
    }

    private static void planAndLabel() {
        BoxedPapers x = new BoxedPapers();
        due("1 series(-1, 1, 100)", x.series(-1, 1, 100), 0);
        due("1 series(0, 20, 29)", x.series(0, 20, 29), 1);
        due("1 room(0, 50)", x.room(0, 50), 0);
        due("1 room(3, 8)", x.room(3, 8), 0);
        due("1 lay(0, 15, 24)", x.lay(0, 15, 24), 10);
        due("1 home(22)", x.home(22), 1);
        due("1 of(0, 3)", x.of(0, 3), 90);
        due("1 of(0, 7)", x.of(0, 7), 2);
        due("1 plan(0, -1, 0)", x.plan(0, -1, 0), 3);
        due("1 plan(0, 1, 2)", x.plan(0, 1, 2), 0);
        due("1 left(0)", x.left(0), 42);
        due("1 stow(0)", x.stow(0), 3);
        due("1 label(0)", x.label(0), 20);
        due("1 paper(0)", x.paper(0), 48);
        due("1 count(1)", x.count(1), 2);
        due("1 undo()", x.undo(), 5);
    }

    private static void trailAndList() {
        BoxedPapers x = new BoxedPapers();
        due("2 room(1, 10)", x.room(1, 10), 0);
        due("2 lay(1, 5, 9)", x.lay(1, 5, 9), 5);
        due("2 pass(3)", x.pass(3), 3);
        due("2 take(7, 7)", x.take(7, 7), 1);
        due("2 was(7, 2)", x.was(7, 2), 1);
        due("2 was(7, 3)", x.was(7, 3), -1);
        due("2 trail(7, -1)", x.trail(7, -1), 2);
        due("2 row(1, 5, 12)", x.row(1, 5, 12), 0);
        due("2 row(2, 12, 14)", x.row(2, 12, 14), 1);
        due("2 listed(0, 3)", x.listed(0, 3), 4);
        due("2 listed(0, 5)", x.listed(0, 5), 1);
        due("2 unlisted(1)", x.unlisted(1), 0);
        due("2 box(1, 2)", x.box(1, 2), 2);
        due("2 shift(1, 2)", x.shift(1, 2), -5);
        due("2 shift(1, 1)", x.shift(1, 1), -2);
        due("2 move(1, 3)", x.move(1, 3), -1);
    }

    private static void textThatBeginsAnew() {
        BoxedPapers x = new BoxedPapers();
        String text = "pass 5;all";
        for (int i = 0; i < text.length(); i++) {
            due("3 type(" + (int) text.charAt(i) + ")", x.type(text.charAt(i)), i + 1);
        }
        due("3 tell()", x.tell(), 2);
        due("3 count(3)", x.count(3), 0);
        due("3 fault()", x.fault(), 0);
        due("3 gap(0, 0, 0)", x.gap(0, 0, 0), -2);
        due("3 series(0, 1, 2)", x.series(0, 1, 2), -2);
        due("3 lay(8, 1, 1)", x.lay(8, 1, 1), -2);
    }
}
