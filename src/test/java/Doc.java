import java.io.IOException;
import java.nio.charset.StandardCharsets;
import java.nio.file.Files;
import java.nio.file.Path;
import java.util.LinkedHashMap;
import java.util.Map;
import java.util.Set;
import java.util.TreeSet;
import java.util.regex.Matcher;
import java.util.regex.Pattern;

/** The sections of the document, so that an edge's test says the very words it is of. */
final class Doc {
    private static final Map<String, String> SECTIONS = sections();
    private static final Set<String> QUOTED = new TreeSet<>();

    private Doc() {
    }

    private static Map<String, String> sections() {
        Map<String, String> sections = new LinkedHashMap<>();
        String text;
        try {
            text = Files.readString(Path.of("../shared/DOC.md"), StandardCharsets.UTF_8);
        } catch (IOException e) {
            throw new IllegalStateException("../shared/DOC.md can't be read", e);
        }
        // Terms are parted by their Roman numbers, promises by their own.
        Matcher head = Pattern.compile("(?m)^(?:## (?:Promise )?([^:\n]+).*|(IV|I{1,3})\\. )").matcher(text);
        String name = "";
        int from = 0;
        while (head.find()) {
            sections.put(name, plain(text.substring(from, head.start())));
            name = head.group(1) == null ? head.group(2) : head.group(1).trim();
            from = head.end();
        }
        sections.put(name, plain(text.substring(from)));
        return sections;
    }

    private static String plain(String text) {
        return text.replaceAll("\\s+", " ").trim();
    }

    /** The checks behind this are of these words; the document must have them in that section. */
    static void says(String section, String words) {
        String text = SECTIONS.get(section);
        Check.about(section + " \"" + words + "\"");
        Check.due("section " + section + " has these words", text != null && text.contains(plain(words)), true);
        QUOTED.add(section);
    }

    static void says(int promise, String words) {
        says("" + promise, words);
    }

    /** Each promise, and each of the terms, must have had its words tested. */
    static void allQuoted() {
        Check.about("the document");
        for (int promise = 1; promise <= 54; promise++) {
            Check.due("promise " + promise + " is tested", QUOTED.contains("" + promise), true);
        }
        for (String terms : new String[] {"I", "II", "III", "IV", "What it is"}) {
            Check.due(terms + " is tested", QUOTED.contains(terms), true);
        }
    }
}
