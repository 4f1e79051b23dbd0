import java.io.IOException;
import java.lang.management.ManagementFactory;
import java.lang.reflect.Constructor;
import java.lang.reflect.Field;
import java.lang.reflect.Method;
import java.lang.reflect.Modifier;
import java.nio.file.Files;
import java.nio.file.Path;
import java.util.List;
import java.util.Random;
import java.util.Set;
import java.util.TreeSet;
import java.util.regex.Matcher;
import java.util.regex.Pattern;

/** The rules of LANGUAGE.md that can be looked at from outside, and that calls make no objects. */
public final class LanguageTest {
    private static final Path SOURCE = Path.of("src/main/java/BoxedPapers.java");
    private static final int LONGEST_METHOD = 60;

    private static final Set<String> FACE = new TreeSet<>(List.of("type 1", "erase 0", "fault 0", "tell 0", "series 3",
            "room 2", "lay 3", "take 2", "shift 2", "stow 1", "pass 1", "undo 0", "of 2", "box 2", "piece 2", "gap 3",
            "home 1", "where 1", "was 2", "move 2", "trail 2", "row 3", "clear 0", "listed 2", "unlisted 1", "label 1",
            "paper 1", "plan 3", "left 1", "count 1"));

    private static int wrong = 0;

    private static void must(boolean holds, String what) {
        if (!holds) {
            wrong++;
            System.out.println("rule broken: " + what);
        }
    }

    public static void main(String[] args) throws IOException {
        face();
        fields(BoxedPapers.class);
        for (Class<?> inside : BoxedPapers.class.getDeclaredClasses()) {
            must(Modifier.isStatic(inside.getModifiers()), "static class " + inside);
            must(!Modifier.isPublic(inside.getModifiers()), "no public class " + inside);
            fields(inside);
            methods(inside);
            privateNames(inside);
        }
        methods(BoxedPapers.class);
        must(BoxedPapers.class.getDeclaredClasses().length <= 12, "at most twelve classes");
        words(withoutComments(Files.readString(SOURCE)));
        lengths(Files.readAllLines(SOURCE));
        objects();
        anyCalls();
        if (wrong != 0) {
            System.exit(1);
        }
        System.out.println("the rules are kept");
    }

    private static void face() {
        Set<String> found = new TreeSet<>();
        Set<String> names = new TreeSet<>();
        for (Method m : BoxedPapers.class.getDeclaredMethods()) {
            if (Modifier.isPublic(m.getModifiers())) {
                must(m.getReturnType() == int.class && !Modifier.isStatic(m.getModifiers()), "int " + m);
                found.add(m.getName() + " " + m.getParameterCount());
                names.add(m.getName());
            }
        }
        must(found.equals(FACE), "the face is " + FACE + ", not " + found);
        for (Method m : BoxedPapers.class.getDeclaredMethods()) {
            boolean open = Modifier.isPublic(m.getModifiers());
            must(open || Modifier.isPrivate(m.getModifiers()), "private " + m);
            must(open || !names.contains(m.getName()), "a name of its own: " + m);
        }
        Constructor<?>[] made = BoxedPapers.class.getDeclaredConstructors();
        must(made.length == 1 && made[0].getParameterCount() == 0 && Modifier.isPublic(made[0].getModifiers()),
                "one constructor");
        must(Modifier.isFinal(BoxedPapers.class.getModifiers()), "final class");
        Set<String> constants = new TreeSet<>();
        for (Field f : BoxedPapers.class.getDeclaredFields()) {
            if (!Modifier.isPrivate(f.getModifiers())) {
                constants.add(f.getName());
            }
        }
        must(constants.equals(new TreeSet<>(List.of("NONE", "UNKNOWN", "OUTSIDE", "NOT", "FULL"))), "the constants");
    }

    private static void privateNames(Class<?> inside) {
        for (Method m : inside.getDeclaredMethods()) {
            boolean free = !Modifier.isPrivate(m.getModifiers()) || FACE.stream().noneMatch(f -> f.startsWith(m.getName() + " "));
            must(free, "no private method with a name of the face: " + m);
        }
    }

    private static void fields(Class<?> c) {
        int own = 0;
        for (Field f : c.getDeclaredFields()) {
            if (Modifier.isStatic(f.getModifiers())) {
                must(Modifier.isFinal(f.getModifiers()), "static field is final: " + f);
            } else {
                own++;
            }
        }
        must(own <= 20, "at most twenty fields: " + c);
    }

    private static void methods(Class<?> c) {
        for (Method m : c.getDeclaredMethods()) {
            must(m.getParameterCount() <= 7, "at most seven parameters: " + m);
            must(!Set.of("equals", "hashCode", "toString").contains(m.getName()), "no " + m);
        }
    }

    private static String withoutComments(String source) {
        return source.replaceAll("(?s)/\\*.*?\\*/", "").replaceAll("//[^\n]*", "");
    }

    private static void words(String code) {
        for (String word : List.of("throw", "throws", "try", "catch", "finally", "synchronized", "assert", "import",
                "package", "native", "volatile", "Object", "Thread", "Random", "\\w+Exact", "protected")) {
            must(!Pattern.compile("\\b" + word + "\\b").matcher(code).find(), "no " + word);
        }
        for (String sign : List.of("->", "::", "@", "[][][]")) {
            must(!code.contains(sign), "no " + sign);
        }
        Matcher call = Pattern.compile("\\b([A-Z][a-z]\\w*)\\.(\\w+)").matcher(code);
        Set<String> library = Set.of("Math.min", "Math.max", "System.arraycopy", "Integer.bitCount");
        while (call.find()) {
            must(library.contains(call.group()), "not in the library that is used: " + call.group());
        }
    }

    /** Methods begin at a line that ends with ") {" outside of all methods, and end with a brace in the same column. */
    private static void lengths(List<String> lines) {
        Pattern head = Pattern.compile("^( {4}| {8})(?!return|if|for|switch)\\w[^=;]*\\([^=;]*\\) \\{$");
        for (int i = 0; i < lines.size(); i++) {
            Matcher m = head.matcher(lines.get(i));
            if (m.find()) {
                int end = i;
                while (end < lines.size() && !lines.get(end).equals(m.group(1) + "}")) {
                    end++;
                }
                must(end - i + 1 <= LONGEST_METHOD, "a short method: " + lines.get(i).trim());
            }
        }
    }

    /** All calls of a run live in one room, so that only the constructor makes objects. */
    private static void objects() {
        com.sun.management.ThreadMXBean threads = (com.sun.management.ThreadMXBean) ManagementFactory.getThreadMXBean();
        long least = Long.MAX_VALUE;
        for (int turn = 0; turn < 50 && least != 0; turn++) {
            BoxedPapers x = new BoxedPapers();
            long before = threads.getCurrentThreadAllocatedBytes();
            manyCalls(x);
            least = Math.min(least, threads.getCurrentThreadAllocatedBytes() - before);
        }
        must(least == 0, "calls make no objects: " + least + " bytes");
    }

    private static void manyCalls(BoxedPapers x) {
        x.series(BoxedPapers.NONE, 1, 100);
        x.series(0, 20, 29);
        for (int box = 0; box < 8; box++) {
            x.room(box, 9);
            x.lay(box, 7 * box + 1, 7 * box + 5);
            x.row(box, 6 * box + 1, 6 * box + 9);
        }
        x.take(17, 18);
        x.shift(0, 1);
        x.stow(0);
        x.stow(1);
        x.undo();
        x.undo();
        x.pass(3);
        for (int what = -1; what < 13; what++) {
            x.of(0, what);
            x.box(1, what);
            x.piece(1, what);
            x.gap(0, 0, what);
            x.move(3, what);
            x.trail(5, what);
            x.listed(3, what);
            x.plan(0, 0, what);
            x.left(0);
            x.count(what);
            x.home(what);
            x.where(what);
            x.was(2, what);
            x.label(what);
            x.unlisted(what);
            x.paper(what);
        }
        x.clear();
        x.erase();
        typeCommands(x);
        x.fault();
        x.tell();
    }

    /** No call throws for any arguments in any state, so also behind the 512th call, where the answers are free. */
    private static void anyCalls() {
        int[] some = {Integer.MIN_VALUE, -2000000000, -101, -100, -2, -1, 0, 0, 0, 1, 1, 2, 3, 5, 7, 8, 9, 10, 12, 24, 40,
            50, 97, 100, 199, 200, 201, 255, 256, 999, 1000, 1999999999, 2000000000, 2000000001, Integer.MAX_VALUE};
        Random random = new Random(1);
        BoxedPapers x = new BoxedPapers();
        String[] face = FACE.toArray(new String[0]);
        for (int turn = 0; turn < 300000; turn++) {
            String[] words = face[random.nextInt(face.length)].split(" ");
            int[] values = random.ints(Integer.parseInt(words[1]), 0, some.length).map(k -> some[k]).toArray();
            Call call = new Call(words[0], values);
            try {
                if (turn % 1000 == 0) {
                    typeCommands(x);
                }
                call.on(x);
            } catch (RuntimeException e) {
                must(false, "no call throws: " + call + " at turn " + turn + ", " + e);
                return;
            }
        }
    }

    private static void typeCommands(BoxedPapers x) {
        String text = "pass 5;top 200 300;series 2 210 220;box 0 2000;lay 0 200 250;take 3 4;row 1 2 3;all";
        for (int i = 0; i < text.length(); i++) {
            x.type(text.charAt(i));
        }
    }
}
