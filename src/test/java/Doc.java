import java.io.IOException;
import java.nio.file.Files;
import java.nio.file.Path;
import java.util.ArrayList;
import java.util.LinkedHashMap;
import java.util.List;
import java.util.Map;
import java.util.regex.Matcher;
import java.util.regex.Pattern;

/** The words of the document's Terms and promises, and which of them a test has been written of. */
final class Doc {
    static final String TERMS = "Terms";
    private static final Path PLACE = Path.of("../shared/DOC.md");
    private static final Pattern PROMISE = Pattern.compile("## Promise (\\d+):.*");
    private static final Pattern WORD = Pattern.compile("[A-Za-z0-9]");

    private final Map<String, String> texts = new LinkedHashMap<>();
    private final Map<String, boolean[]> named = new LinkedHashMap<>();

    Doc() throws IOException {
        if (!isThere()) {
            System.out.println("no " + PLACE + ": that the words quoted stand in it is not looked at");
            return;
        }
        Map<String, StringBuilder> bodies = new LinkedHashMap<>();
        String section = "";
        for (String line : Files.readAllLines(PLACE)) {
            if (line.startsWith("## ")) {
                section = sectionOf(line);
            } else if (!section.isEmpty()) {
                bodies.computeIfAbsent(section, s -> new StringBuilder()).append(line).append(' ');
            }
        }
        bodies.forEach((name, body) -> {
            texts.put(name, plain(body.toString()));
            named.put(name, new boolean[texts.get(name).length()]);
        });
    }

    static boolean isThere() {
        return Files.isReadable(PLACE);
    }

    private static String sectionOf(String heading) {
        Matcher m = PROMISE.matcher(heading);
        return m.matches() ? m.group(1) : heading.equals("## Terms") ? TERMS : "";
    }

    /** Without the signs that only lay it out, and without the call's head. */
    private static String plain(String body) {
        String text = body.replace("```text", " ").replace("```", " ").replace("========", " ").trim();
        return text.replaceFirst("^`[^`]*`: ", "").replace("`", "").replaceAll("\\s+", " ").trim();
    }

    /** Whether the words stand there; the first ones of them that no test was written of are taken as told. */
    boolean name(String section, String words) {
        if (!isThere()) {
            return true;
        }
        String text = texts.getOrDefault(section, "");
        int first = text.indexOf(words);
        int at = first;
        while (at >= 0 && named.get(section)[at]) {
            at = text.indexOf(words, at + 1);
        }
        int from = at >= 0 ? at : first;
        for (int i = 0; from >= 0 && i < words.length(); i++) {
            named.get(section)[from + i] = true;
        }
        return from >= 0;
    }

    /** All words of which no test was written. */
    List<String> unnamed() {
        List<String> left = new ArrayList<>();
        texts.forEach((section, text) -> {
            StringBuilder run = new StringBuilder();
            for (int i = 0; i <= text.length(); i++) {
                if (i < text.length() && !named.get(section)[i]) {
                    run.append(text.charAt(i));
                } else {
                    if (WORD.matcher(run).find()) {
                        left.add(section + ": " + run);
                    }
                    run.setLength(0);
                }
            }
        });
        return left;
    }

    int sections() {
        return texts.size();
    }
}
