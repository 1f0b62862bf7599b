import java.io.IOException;
import java.io.UncheckedIOException;
import java.nio.file.Files;
import java.nio.file.Path;
import java.util.ArrayList;
import java.util.LinkedHashMap;
import java.util.List;
import java.util.Map;
import java.util.regex.Matcher;
import java.util.regex.Pattern;

/** DOC.md by its sections, and which of their sentences have been quoted. */
final class Document {
    private static final Pattern HEADS = Pattern.compile(
        "(?m)^(?:## (What it is|The public face|Terms|Promise \\d+|Not promised).*"
        + "|==== ([123])\\. [A-Z ]+|(REFUSALS) )");

    private static final class Section {
        final String text;
        final boolean[] quoted;

        Section(String text) {
            this.text = text;
            quoted = new boolean[text.length()];
        }
    }

    private final Map<String, Section> sections = new LinkedHashMap<>();

    Document(Path file) {
        String doc;
        try {
            doc = Files.readString(file);
        } catch (IOException e) {
            throw new UncheckedIOException(e);
        }
        Matcher head = HEADS.matcher(doc);
        String name = "";
        int from = 0;
        while (head.find()) {
            put(name, doc.substring(from, head.start()));
            name = head.group(1) != null ? head.group(1) : head.group(2) != null ? "Terms " + head.group(2) : head.group(3);
            from = head.end();
        }
        put(name, doc.substring(from));
    }

    /** Fences of code, and the line of the face with which a promise begins, are no sentences. */
    private void put(String name, String text) {
        String bare = text.replaceAll("(?m)^```\\w*$", " ").replaceAll("^\\s*`[^`\n]+`:", "");
        sections.put(name, new Section(bare.replaceAll("\\s+", " ").trim()));
    }

    /** Whether a section has a sentence, which is quoted from now on. */
    boolean quote(String name, String sentence) {
        Section section = sections.get(name);
        if (section == null || sentence.isEmpty()) {
            return false;
        }
        int first = section.text.indexOf(sentence);
        int at = first;
        while (at >= 0 && section.quoted[at]) {
            at = section.text.indexOf(sentence, at + 1);
        }
        at = at < 0 ? first : at;
        for (int i = 0; at >= 0 && i < sentence.length(); i++) {
            section.quoted[at + i] = true;
        }
        return at >= 0;
    }

    /** What nobody quoted of a section, but for signs between the sentences. */
    List<String> notQuoted(String name) {
        List<String> left = new ArrayList<>();
        Section section = sections.get(name);
        if (section == null) {
            left.add("there is no such section");
            return left;
        }
        StringBuilder run = new StringBuilder();
        for (int i = 0; i <= section.text.length(); i++) {
            if (i < section.text.length() && !section.quoted[i]) {
                run.append(section.text.charAt(i));
            } else {
                if (run.chars().anyMatch(Character::isLetterOrDigit)) {
                    left.add(run.toString().trim());
                }
                run.setLength(0);
            }
        }
        return left;
    }

    /** The sections that say what is due: the three of the terms, the refusals, and the promises. */
    List<String> toBeQuoted() {
        List<String> names = new ArrayList<>();
        for (String name : sections.keySet()) {
            if (name.startsWith("Terms ") || name.equals("REFUSALS") || name.startsWith("Promise ")) {
                names.add(name);
            }
        }
        return names;
    }
}
