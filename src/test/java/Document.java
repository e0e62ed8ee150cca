import java.io.IOException;
import java.nio.file.Files;
import java.nio.file.Path;
import java.util.ArrayList;
import java.util.LinkedHashMap;
import java.util.List;
import java.util.Map;
import java.util.regex.Matcher;
import java.util.regex.Pattern;

/** The document by its sections ("Terms 1", "Promise 7", ..): what is quoted of it, and which edges are not. */
final class Document {
    /** Words by which a sentence shows that it names an edge: a bound, a refusal, a tie, what lacks, what goes round. */
    private static final Pattern EDGES = Pattern.compile("\\d+ \\.\\. \\d+|NONE|-\\d+(?= - p|:)|-100 |[Rr]efused|NoSuch\\w+"
            + "|of equal|of as many|no more|more than|or more|at most|at first|at the first|\\bempt\\w+|missing|nothing"
            + "|none|without|\\bcut\\b|lowest|below 0|above 0|by 0|rest\\)|too early|[Aa]s ints|sign, by|if any|if there"
            + "|if it had|had one|if n is|has none|one has now|alone|comes 0|behind it have|all 0|others|another"
            + "|full|any many|with their sign|, if |the first 40|512");

    private final Map<String, String> sections = new LinkedHashMap<>();
    private final Map<String, boolean[]> quoted = new LinkedHashMap<>();

    Document(Path file) throws IOException {
        String whole = Files.readString(file).replaceAll("```\\w*", "");
        for (String part : whole.split("(?m)^## ")) {
            String name = part.lines().findFirst().orElse("").strip();
            String text = part.substring(Math.min(part.length(), name.length()));
            if (name.equals("Terms")) {
                for (String term : text.split("(?m)^(?=\\d+\\. )")) {
                    add("Terms " + term.strip().replaceAll("(?s)\\..*", ""), term);
                }
            } else {
                add(name.replaceAll(":.*", ""), text.replaceAll("`[^`]*`", ""));
            }
        }
    }

    private void add(String name, String text) {
        String plain = plain(text);
        if (!plain.isEmpty()) {
            sections.put(name, plain);
            quoted.put(name, new boolean[plain.length()]);
        }
    }

    private static String plain(String text) {
        return text.replaceAll("\\s+", " ").strip();
    }

    /** False if the section has no such sentence. */
    boolean quote(String section, String sentence) {
        String text = sections.getOrDefault(section, "");
        String plain = plain(sentence);
        int at = text.indexOf(plain);
        if (at < 0 || plain.isEmpty()) {
            return false;
        }
        for (int i = at; i < at + plain.length(); i++) {
            quoted.get(section)[i] = true;
        }
        return true;
    }

    /** The edges of some sections that are in no quoted sentence, each with what stands round it. */
    List<String> unquoted(String sectionsFrom) {
        List<String> all = new ArrayList<>();
        for (Map.Entry<String, String> section : sections.entrySet()) {
            String text = section.getValue();
            Matcher edge = EDGES.matcher(text);
            while (section.getKey().startsWith(sectionsFrom) && edge.find()) {
                if (!quoted.get(section.getKey())[edge.start()]) {
                    all.add(section.getKey() + ": .." + text.substring(Math.max(0, edge.start() - 50),
                            Math.min(text.length(), edge.end() + 50)) + "..");
                }
            }
        }
        return all;
    }
}
