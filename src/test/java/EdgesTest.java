import java.io.IOException;
import java.util.List;

/**
 * For every sentence of the document's Description and promises a test of its own: its limits, what is just within and
 * just beyond them, and which error comes first. After every call that is refused nothing may be different.
 */
public final class EdgesTest {
    public static void main(String[] args) throws IOException {
        Sentences.read();
        DescriptionEdges.all();
        TextEdges.all();
        ChangeEdges.all();
        AskEdges.all();
        ListEdges.all();
        List<String> faults = Sentences.faults();
        faults.forEach(System.out::println);
        if (!faults.isEmpty()) {
            System.exit(1);
        }
        System.out.println(Sentences.size() + " sentences hold in " + Sentences.checks() + " answers");
    }
}
