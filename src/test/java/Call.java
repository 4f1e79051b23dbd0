import java.util.Arrays;

/** A call of BoxedPapers by the name of its method, so that a run of calls can be kept and made again. */
record Call(String name, int... values) {
    int on(BoxedPapers x) {
        int[] v = values;
        return switch (name) {
            case "type" -> x.type(v[0]);
            case "erase" -> x.erase();
            case "fault" -> x.fault();
            case "tell" -> x.tell();
            case "series" -> x.series(v[0], v[1], v[2]);
            case "room" -> x.room(v[0], v[1]);
            case "lay" -> x.lay(v[0], v[1], v[2]);
            case "take" -> x.take(v[0], v[1]);
            case "shift" -> x.shift(v[0], v[1]);
            case "stow" -> x.stow(v[0]);
            case "pass" -> x.pass(v[0]);
            case "undo" -> x.undo();
            case "of" -> x.of(v[0], v[1]);
            case "box" -> x.box(v[0], v[1]);
            case "piece" -> x.piece(v[0], v[1]);
            case "gap" -> x.gap(v[0], v[1], v[2]);
            case "home" -> x.home(v[0]);
            case "where" -> x.where(v[0]);
            case "was" -> x.was(v[0], v[1]);
            case "move" -> x.move(v[0], v[1]);
            case "trail" -> x.trail(v[0], v[1]);
            case "row" -> x.row(v[0], v[1], v[2]);
            case "clear" -> x.clear();
            case "listed" -> x.listed(v[0], v[1]);
            case "unlisted" -> x.unlisted(v[0]);
            case "label" -> x.label(v[0]);
            case "paper" -> x.paper(v[0]);
            case "plan" -> x.plan(v[0], v[1], v[2]);
            case "left" -> x.left(v[0]);
            case "count" -> x.count(v[0]);
            default -> throw new IllegalStateException(name);
        };
    }

    @Override
    public String toString() {
        return name + Arrays.toString(values).replace('[', '(').replace(']', ')');
    }
}
