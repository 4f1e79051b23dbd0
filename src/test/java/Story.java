import java.util.ArrayList;
import java.util.List;
import java.util.Map;
import java.util.regex.Matcher;
import java.util.regex.Pattern;

/**
 * A run of calls on a new object, written as the document writes its examples: "room(0, 5) = 0; lay(0, 1, 6) = FULL".
 * A call without an answer only prepares, and must not be refused. A star as the last argument stands for 0, 1, 2, ..,
 * with an answer for each: "piece(0, *) = 5 9 0". A text in single quotes is typed.
 *
 * A call that is due to be refused is looked at: nothing may be different after it.
 */
final class Story {
    private static final Map<String, Integer> NAMES = Map.of("NONE", -1, "UNKNOWN", -2, "OUTSIDE", -3, "NOT", -4,
            "FULL", -5, "TOP", 2000000000, "MIN", Integer.MIN_VALUE, "MAX", Integer.MAX_VALUE);
    private static final Pattern ITEM = Pattern.compile("'([^']*)'|(\\w+)\\(([^)]*)\\)(?: = ([^;]+))?");
    private static final Pattern VALUE = Pattern.compile("([A-Z]+)?([+-]?\\d+)?");

    private final BoxedPapers papers = new BoxedPapers();
    private final List<Call> run = new ArrayList<>();
    private List<String> seen = null;

    static Story begin() {
        return new Story();
    }

    static Story begin(String calls) {
        return new Story().go(calls);
    }

    /** The sheets 10, 20, .. are pieces of box 0, whose room has no bound but the highest; a move for each. */
    static Story pieces(int number) {
        Story story = begin("room(0, TOP)");
        for (int k = 1; k <= number; k++) {
            story.due(1, "lay", 0, 10 * k, 10 * k);
        }
        return story;
    }

    /** So many moves, none of which brought a sheet anywhere. */
    static Story moves(int number) {
        return begin().more(number);
    }

    Story more(int number) {
        for (int k = 0; k < number; k++) {
            due(0, "take", 2000000000, 2000000000);
        }
        return this;
    }

    Story go(String calls) {
        int at = 0;
        Matcher item = ITEM.matcher(calls);
        while (at < calls.length()) {
            if (!item.find(at) || item.start() != at) {
                throw new IllegalStateException("no call: " + calls.substring(at));
            }
            if (item.group(1) != null) {
                typed(item.group(1));
            } else {
                calls(item.group(2), item.group(3), item.group(4));
            }
            at = item.end();
            while (at < calls.length() && (calls.charAt(at) == ';' || calls.charAt(at) == ' ')) {
                at++;
            }
        }
        return this;
    }

    Story typed(String text) {
        for (int i = 0; i < text.length(); i++) {
            answer(new Call("type", text.charAt(i)));
        }
        return this;
    }

    private void calls(String name, String arguments, String answers) {
        String[] parts = arguments.isBlank() ? new String[0] : arguments.strip().split(",\\s*");
        String[] due = answers == null ? new String[0] : answers.strip().split("\\s+");
        boolean star = parts.length > 0 && parts[parts.length - 1].equals("*");
        if (!star && due.length > 1 || star && due.length == 0) {
            throw new IllegalStateException("answers do not fit: " + name + "(" + arguments + ") = " + answers);
        }
        for (int k = 0; k < Math.max(1, due.length); k++) {
            int[] values = new int[parts.length];
            for (int i = 0; i < values.length; i++) {
                values[i] = star && i == values.length - 1 ? k : value(parts[i]);
            }
            if (due.length == 0) {
                prepare(new Call(name, values));
            } else {
                due(value(due[k]), name, values);
            }
        }
    }

    private static int value(String word) {
        Matcher m = VALUE.matcher(word);
        if (word.isEmpty() || !m.matches()) {
            throw new IllegalStateException("no value: " + word);
        }
        int base = m.group(1) == null ? 0 : NAMES.get(m.group(1));
        return base + (m.group(2) == null ? 0 : Integer.parseInt(m.group(2)));
    }

    private void prepare(Call call) {
        int got = answer(call);
        if (got < 0) {
            fail(got, "not to be refused");
        }
    }

    Story due(int want, String name, int... values) {
        List<Call> before = new ArrayList<>(run);
        List<String> seenBefore = seen;
        int got = answer(new Call(name, values));
        Sentences.checked();
        if (got != want) {
            fail(got, String.valueOf(want));
        } else if (want < BoxedPapers.NONE) {
            same(seenBefore == null ? Look.at(before) : seenBefore);
        }
        return this;
    }

    /** These calls leave everything as it was. */
    Story still(String calls) {
        List<String> before = Look.at(run);
        go(calls);
        same(before);
        return this;
    }

    /** Nothing that can be seen of this object is different from what can be seen of the other. */
    Story like(Story other) {
        Sentences.checked();
        same(Look.at(other.run));
        return this;
    }

    private void same(List<String> due) {
        seen = Look.at(run);
        if (!seen.equals(due)) {
            List<String> lost = new ArrayList<>(due);
            lost.removeAll(seen);
            List<String> found = new ArrayList<>(seen);
            found.removeAll(due);
            Sentences.fail(this + " made a difference: " + lost + " became " + found);
        }
    }

    /** The paper holds this text, and nothing behind it. */
    Story page(String text) {
        due(text.length(), "count", 9);
        for (int i = 0; i < text.length(); i++) {
            due(text.charAt(i), "paper", i);
        }
        return due(BoxedPapers.NONE, "paper", text.length());
    }

    private int answer(Call call) {
        run.add(call);
        seen = null;
        if (run.size() > Look.MOST_CALLS) {
            throw new IllegalStateException("more calls than the document speaks of");
        }
        return call.on(papers);
    }

    private void fail(int got, String want) {
        Sentences.fail(this + " answered " + got + ", due is " + want);
    }

    /** The run as it could be given to go, texts in quotes. */
    @Override
    public String toString() {
        StringBuilder words = new StringBuilder();
        boolean open = false;
        for (Call call : run) {
            boolean typed = call.name().equals("type") && call.values()[0] > ' ' - 1 && call.values()[0] < 127;
            words.append(open && !typed ? "'" : "").append(open && typed || words.length() == 0 ? "" : "; ");
            words.append(!open && typed ? "'" : "").append(typed ? (char) call.values()[0] : call);
            open = typed;
        }
        return words.append(open ? "'" : "").toString();
    }

    /** The fault of a text; a text without one can be told, the others stay. */
    static Story fault(String text, int position) {
        Story story = begin().typed(text).due(position, "fault");
        if (position == BoxedPapers.NONE) {
            return story.still("fault() = NONE");
        }
        return story.due(BoxedPapers.NOT, "tell");
    }
}
