import java.io.IOException;
import java.nio.file.Files;
import java.nio.file.Path;
import java.util.ArrayList;
import java.util.Collections;
import java.util.List;
import java.util.Map;
import java.util.TreeMap;
import java.util.regex.Matcher;
import java.util.regex.Pattern;
import java.util.stream.Stream;

/** Each sentence that a test names stands in the document, and each sentence of the document is named by a test. */
public final class SentencesTest {
    private static final Path DOCUMENT = Path.of("..", "shared", "DOC.md");
    private static final Path TESTS = Path.of("src", "test", "java");
    private static final Pattern NAMED = Pattern.compile("due\\.of\\((\\w+), ((?:\"(?:[^\"\\\\]|\\\\.)*\"(?:\\s*\\+\\s*)?)+)\\);");
    private static final Pattern STRING = Pattern.compile("\"((?:[^\"\\\\]|\\\\.)*)\"");
    private static final int PROMISES = 32;
    private static final Due due = new Due("SentencesTest");

    /** A part of the document, and which of its signs were named. */
    private static final class Part {
        final String text;
        final boolean[] named;

        Part(String text) {
            this.text = text.replaceAll("\\s+", " ").trim();
            this.named = new boolean[this.text.length()];
        }

        boolean has(String sentence) {
            int at = text.indexOf(sentence);
            for (int i = 0; at >= 0 && i < sentence.length(); i++) {
                named[at + i] = true;
            }
            return at >= 0;
        }

        /** The words that no sentence named, nothing if there are none. */
        String left() {
            StringBuilder b = new StringBuilder();
            for (int i = 0; i < named.length; i++) {
                b.append(named[i] ? ' ' : text.charAt(i));
            }
            String left = b.toString().replaceAll("\\s+", " ").trim();
            return left.matches(".*[A-Za-z0-9].*") ? left : "";
        }
    }

    // 0 are the terms, on which all promises lean.
    private static final Map<Integer, Part> parts = new TreeMap<>();

    public static void main(String[] args) throws IOException {
        readDocument();
        for (Path file : testFiles()) {
            readTest(file);
        }
        for (Map.Entry<Integer, Part> part : parts.entrySet()) {
            String left = part.getValue().left();
            due.is("sentences of promise " + part.getKey() + " (0: the terms) that no test names: '" + left + "'", left.length(), 0);
        }
        due.end();
    }

    private static void readDocument() throws IOException {
        String document = Files.readString(DOCUMENT);
        String use = between(document, "\nAn object is used", "\n");
        String terms = between(document, "\n## Terms\n", "\n## ")
            .replace("## Terms", "")
            .replaceAll("(?m)^Ahead of the calls .*$", "")
            .replaceAll("(?m)^```.*$", "")
            .replaceAll("(?m)^======== [0-9]", "");
        parts.put(0, new Part(use + " " + terms));
        for (int promise = 1; promise <= PROMISES; promise++) {
            String section = between(document, "\n## Promise " + promise + ":", "\n## ");
            // The heading and the call itself are no sentences.
            parts.put(promise, new Part(section.replaceFirst("(?s)^.*?`[^`]*`:", "")));
        }
    }

    private static String between(String document, String start, String end) {
        int from = document.indexOf(start);
        due.is("the document has '" + start.trim() + "'", from >= 0 ? 1 : 0, 1);
        int to = document.indexOf(end, from + start.length());
        return from < 0 ? "" : document.substring(from, to < 0 ? document.length() : to);
    }

    private static List<Path> testFiles() throws IOException {
        List<Path> files = new ArrayList<>();
        try (Stream<Path> all = Files.list(TESTS)) {
            all.filter(file -> file.toString().endsWith("Test.java")).forEach(files::add);
        }
        Collections.sort(files);
        return files;
    }

    private static void readTest(Path file) throws IOException {
        Matcher m = NAMED.matcher(Files.readString(file));
        while (m.find()) {
            StringBuilder sentence = new StringBuilder();
            Matcher s = STRING.matcher(m.group(2));
            while (s.find()) {
                sentence.append(s.group(1).replace("\\\"", "\""));
            }
            boolean stands = stands(m.group(1), sentence.toString());
            due.is(file + " names, for promise " + m.group(1) + ", '" + sentence + "'; does the document say so", stands ? 1 : 0, 1);
        }
    }

    private static boolean stands(String promise, String sentence) {
        boolean stands = parts.get(0).has(sentence);
        if (promise.matches("[0-9]+") && parts.containsKey(Integer.valueOf(promise))) {
            stands |= parts.get(Integer.valueOf(promise)).has(sentence);
        }
        return stands;
    }
}
