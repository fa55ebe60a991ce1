import java.io.IOException;
import java.nio.file.Files;
import java.nio.file.Path;
import java.util.ArrayList;
import java.util.LinkedHashMap;
import java.util.List;
import java.util.Map;
import java.util.regex.Matcher;
import java.util.regex.Pattern;

/** The document's public face beside the class, word by word; the heads under which it says that the calls stand. */
public final class FaceTest {
    private static final Path DOC = Path.of("../shared/DOC.md");
    private static final Path SOURCE = Path.of("src/main/java/PointLayers.java");
    private static final Pattern HEAD = Pattern.compile("Ahead of the calls (.*) the interface says: ---- (.*)\\.");
    private static final Pattern METHOD = Pattern.compile("    public (?:int|long) (\\w+)\\(.*");
    private static final Due D = new Due();

    public static void main(String[] args) throws IOException {
        if (Files.isReadable(DOC)) {
            List<String> doc = Files.readAllLines(DOC);
            List<String> source = Files.readAllLines(SOURCE);
            face(doc, source);
            heads(doc, source);
        } else {
            // LanguageTest has the face written out, so it is still looked at.
            System.out.println("no " + DOC + ": the class is not put beside its face");
        }
        calls512();
        D.end();
    }

    private static void face(List<String> doc, List<String> source) {
        D.promise("the public face");
        List<String> due = declared(doc.subList(doc.indexOf("```java") + 1, doc.size()));
        List<String> is = declared(source);
        D.due("members", is.size(), due.size());
        for (int i = 0; i < due.size(); i++) {
            D.holds(due.get(i), i < is.size() && is.get(i).equals(due.get(i)));
        }
        D.holds("one class, public and final", source.contains("public final class PointLayers {"));
        D.holds("all of the face was read", due.size() == 1 + 1 + 36);
    }

    private static List<String> declared(List<String> lines) {
        List<String> members = new ArrayList<>();
        for (String line : lines) {
            if (line.startsWith("    public ")) {
                members.add(line.replaceFirst("( \\{|;)$", "").trim());
            }
        }
        return members;
    }

    private static void heads(List<String> doc, List<String> source) {
        D.promise("the heads of the interface");
        Map<String, String> due = new LinkedHashMap<>();
        for (String line : doc) {
            Matcher m = HEAD.matcher(line);
            if (m.matches()) {
                due.put(m.group(2), m.group(1).replace("`", ""));
            }
        }
        Map<String, String> is = new LinkedHashMap<>();
        String head = "";
        for (String line : source) {
            Matcher m = METHOD.matcher(line);
            if (line.startsWith("    // ---- ")) {
                head = line.substring("    // ---- ".length());
            } else if (m.matches()) {
                is.merge(head, m.group(1), (all, one) -> all + ", " + one);
            }
        }
        D.due("heads", due.size(), 5);
        D.holds("due are " + due + ", there are " + is, new ArrayList<>(due.entrySet()).equals(new ArrayList<>(is.entrySet())));
    }

    /** The first 512 calls are promised: the last of them is answered as the first. */
    private static void calls512() {
        D.promise("an object is used for at most 512 calls");
        PointLayers p = new PointLayers();
        for (int call = 1; call <= 511; call++) {
            switch (call % 4) {
                case 1 -> D.due("call " + call, p.put(call % 500, 0, 1), call / 4);
                case 2 -> D.due("call " + call, p.many(-500, 500, -500, 500), 1);
                case 3 -> D.due("call " + call, p.take(call / 4), 1);
                default -> D.due("call " + call, p.layers(4), call / 4);
            }
        }
        D.due("call 512", p.layers(4), 128);
    }
}
