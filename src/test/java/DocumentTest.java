import java.io.IOException;
import java.nio.file.Files;
import java.nio.file.Path;
import java.util.ArrayList;
import java.util.LinkedHashMap;
import java.util.List;
import java.util.Map;
import java.util.regex.Matcher;
import java.util.regex.Pattern;

/** Every sentence of the document is quoted by a test, with says(), and every quote stands in the document. */
public final class DocumentTest {
    private static final Checks C = new Checks("DocumentTest");
    private static final Path DOCUMENT = Path.of("../shared/DOC.md");
    private static final Pattern SAYS =
        Pattern.compile("says\\(\\s*\"(\\w+)\",\\s*(\"(?:[^\"\\\\]|\\\\.)*\"(?:\\s*\\+\\s*\"(?:[^\"\\\\]|\\\\.)*\")*)\\)");
    private static final Pattern HEAD = Pattern.compile("(?m)^## (?:Promise )?(\\w+).*$");

    /** What only leads to the sentences that promise something. */
    private static final List<String> LEADING = List.of(
        "A workbench for small Petri nets that model work cells with pallets and machines. The class computes all markings that can "
            + "be reached (up to a limit), deadlocks, minimal place invariants, minimal siphons and the traps within them, the cheapest "
            + "way back to the home marking; it simulates steps under guards and a supervisor (the keeper), tokens that are lost and "
            + "come back, reads nets from texts, and undoes changes.",
        "Invariants, siphons, traps",
        "The constructor and the methods follow, a promise each: the signature, then what it does.");

    public static void main(String[] args) throws IOException {
        if (!Files.exists(DOCUMENT)) {
            System.out.println("DocumentTest: " + DOCUMENT + " is not here, nothing to hold the quotes against");
            return;
        }
        Map<String, String> sections = sections(Files.readString(DOCUMENT));
        Map<String, List<String>> quotes = quotes();
        for (String section : quotes.keySet()) {
            C.isTrue("there is a section " + section, sections.containsKey(section));
        }
        C.due("sections: W, D and 38 promises", sections.size(), 40);
        for (Map.Entry<String, String> e : sections.entrySet()) {
            String rest = e.getValue();
            List<String> here = new ArrayList<>(quotes.getOrDefault(e.getKey(), List.of()));
            here.sort((a, b) -> b.length() - a.length());
            for (String quote : here) {
                C.isTrue(e.getKey() + " has: " + quote, e.getValue().contains(quote));
                rest = rest.replace(quote, "|");
            }
            for (String sentence : LEADING) {
                rest = rest.replace(sentence, "|");
            }
            rest = rest.replaceAll("\\|[\\s|]*", "| ").trim();
            C.isTrue(e.getKey() + " is quoted by tests, but for: " + rest, !rest.matches("(?s).*\\w.*"));
        }
        C.end();
    }

    /** The sections that promise something, without signatures and the names of parameters. */
    private static Map<String, String> sections(String document) {
        Map<String, String> sections = new LinkedHashMap<>();
        Matcher head = HEAD.matcher(document);
        List<int[]> found = new ArrayList<>();
        List<String> names = new ArrayList<>();
        while (head.find()) {
            found.add(new int[] {head.start(), head.end()});
            names.add(head.group(1));
        }
        for (int i = 0; i < names.size(); i++) {
            int end = i + 1 < names.size() ? found.get(i + 1)[0] : document.length();
            String text = document.substring(found.get(i)[1], end)
                .replaceAll("(?m)^`.*`$", "")
                .replaceAll("(?m)^---- .*$", "")
                .replaceAll("(?m)^- `\\w+`: ", "")
                .replaceAll("\\s+", " ").trim();
            String name = names.get(i);
            if (name.equals("What")) {
                sections.put("W", text);
            } else if (name.equals("Description")) {
                sections.put("D", text);
            } else if (name.matches("\\d+")) {
                sections.put(name, text);
            }
        }
        return sections;
    }

    private static Map<String, List<String>> quotes() throws IOException {
        Map<String, List<String>> quotes = new LinkedHashMap<>();
        List<Path> tests;
        try (var files = Files.list(Path.of("src/test/java"))) {
            tests = files.sorted().toList();
        }
        for (Path test : tests) {
            Matcher m = SAYS.matcher(Files.readString(test));
            while (m.find()) {
                String quote = m.group(2).replaceAll("\"\\s*\\+\\s*\"", "");
                quotes.computeIfAbsent(m.group(1), k -> new ArrayList<>()).add(quote.substring(1, quote.length() - 1));
            }
        }
        return quotes;
    }
}
