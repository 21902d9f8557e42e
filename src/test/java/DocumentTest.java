import java.io.IOException;
import java.nio.file.DirectoryStream;
import java.nio.file.Files;
import java.nio.file.Path;
import java.util.ArrayList;
import java.util.List;
import java.util.Map;
import java.util.TreeMap;
import java.util.regex.Matcher;
import java.util.regex.Pattern;

/**
 * Each sentence of the document has a test of its own: the tests tell by sentence(promise, words)
 * what they look at, so here it is seen that all these words stand in the document, and that of
 * its terms (0) and promises (1 to 36) no word is left that none of them tells.
 */
public final class DocumentTest {
    private static final Check check = new Check("DocumentTest");
    private static final Path DOCUMENT = Path.of("../shared/DOC.md");
    private static final Pattern SENTENCE = Pattern.compile("check\\.sentence\\((\\d+),((?:\\s*\\+?\\s*\"[^\"]*\")+)\\)");

    public static void main(String[] args) throws IOException {
        Map<Integer, String> document = sections(Files.readString(DOCUMENT));
        Map<Integer, List<String>> told = toldByTests();
        check.due("promises of the document", document.size(), 37);
        for (int promise : told.keySet()) {
            check.due("promise " + promise + " is in the document", document.containsKey(promise) ? 1 : 0, 1);
        }
        for (Map.Entry<Integer, String> section : document.entrySet()) {
            look(section.getKey(), section.getValue(), told.getOrDefault(section.getKey(), List.of()));
        }
        check.end();
    }

    private static void look(int promise, String text, List<String> told) {
        boolean[] looked = new boolean[text.length()];
        for (String words : told) {
            int at = text.indexOf(words);
            check.due("promise " + promise + " has the words '" + words + "'", at >= 0 ? 1 : 0, 1);
            for (int i = Math.max(at, 0); at >= 0 && i < at + words.length(); i++) {
                looked[i] = true;
            }
        }
        StringBuilder left = new StringBuilder();
        for (int i = 0; i < text.length(); i++) {
            left.append(looked[i] ? ' ' : text.charAt(i));
        }
        check.due("promise " + promise + ": no test tells '" + left.toString().trim() + "', words", left.toString().trim().length(), 0);
    }

    private static Map<Integer, List<String>> toldByTests() throws IOException {
        Map<Integer, List<String>> told = new TreeMap<>();
        try (DirectoryStream<Path> files = Files.newDirectoryStream(Path.of("src/test/java"), "*Test.java")) {
            for (Path file : files) {
                Matcher m = SENTENCE.matcher(Files.readString(file));
                while (m.find()) {
                    String words = m.group(2).trim().replaceAll("\"\\s*\\+\\s*\"", "");
                    told.computeIfAbsent(Integer.valueOf(m.group(1)), k -> new ArrayList<>())
                            .add(words.substring(1, words.length() - 1));
                }
            }
        }
        return told;
    }

    /** The terms begin at the end of the document's first paragraph, ahead of their own heading. */
    private static Map<Integer, String> sections(String document) {
        Map<Integer, String> sections = new TreeMap<>();
        String terms = "";
        for (String section : document.split("(?m)^## ")) {
            String body = section.substring(section.indexOf('\n') + 1);
            Matcher m = Pattern.compile("Promise (\\d+):.*").matcher(section.lines().findFirst().orElse(""));
            if (m.matches()) {
                sections.put(Integer.valueOf(m.group(1)), plain(body.replaceFirst("`[^`]*`: ", "")));
            } else if (section.startsWith("What it is")) {
                terms = body.substring(body.indexOf("\n\n", body.indexOf("======== 1 ")))
                        + " " + body.lines().filter(l -> l.contains("======== 1 ")).findFirst().orElse("").replaceFirst(".*======== 1 ", "");
            } else if (section.startsWith("Terms")) {
                terms += " " + body;
            }
        }
        sections.put(0, plain(terms));
        return sections;
    }

    /** Without what only parts the text: fences, bars, and what is said ahead of calls. */
    private static String plain(String text) {
        return text.replaceAll("(?m)^Ahead of the calls .*$", "").replaceAll("(?m)^```.*$", "")
                .replaceAll("======== \\d ", "").replaceAll("\\s+", " ").trim();
    }
}
