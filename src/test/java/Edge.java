import java.io.IOException;
import java.nio.file.Files;
import java.nio.file.Path;
import java.util.BitSet;
import java.util.LinkedHashMap;
import java.util.Map;
import java.util.regex.Matcher;
import java.util.regex.Pattern;

/**
 * Names the place and the sentence of the document that the answers below it belong to. The sentence must
 * stand there word for word, and at the end every word of the document must have been named by a test.
 */
final class Edge {
    private static final Map<String, String> REGIONS = new LinkedHashMap<>();
    private static final Map<String, BitSet> NAMED = new LinkedHashMap<>();
    private static String current = "";
    private static int answersOfCurrent = 1;

    private Edge() {
    }

    static void open(String path) throws IOException {
        String text = Files.readString(Path.of(path));
        addRegion("What it is", between(text, "## What it is", "## The public face"));
        addRegion("Terms", between(text, "## Terms", "======== 1 "));
        addRegion("Section 1", between(text, "======== 1 ", "======== 2 "));
        addRegion("Section 2", between(text, "======== 2 ", "======== 3 "));
        addRegion("Section 3", between(text, "======== 3 ", "Ahead of the calls"));
        Matcher m = Pattern.compile("(?m)^## (Promise \\d+): .*\\n+`[^`]*`: (.*)$").matcher(text);
        while (m.find()) {
            addRegion(m.group(1), m.group(2));
        }
        Check.due("places of the document", REGIONS.size(), 5 + 22);
    }

    private static String between(String text, String start, String end) {
        int from = text.indexOf(start);
        int to = text.indexOf(end, Math.max(from, 0));
        Check.holds("the document has '" + start + "' and then '" + end + "'", from >= 0 && to >= 0);
        return from < 0 || to < 0 ? "" : text.substring(from + start.length(), to).replace("```text", " ").replace("```", " ");
    }

    private static void addRegion(String where, String text) {
        REGIONS.put(where, folded(text));
        NAMED.put(where, new BitSet());
    }

    private static String folded(String text) {
        return text.replaceAll("\\s+", " ").trim();
    }

    /** What follows is due by this sentence; the promise is told in 'where', or behind it in brackets. */
    static void says(String where, String sentence) {
        Check.holds("a test for '" + current + "'", answersOfCurrent > 0);
        answersOfCurrent = 0;
        current = where + ": " + sentence;
        name(where, sentence);
    }

    /** Words that tell what others mean: there is nothing that could be broken by itself. */
    static void onlyNames(String where, String words) {
        name(where, words);
    }

    private static void name(String where, String sentence) {
        String place = where.replaceAll(" \\(.*\\)$", "");
        String text = REGIONS.getOrDefault(place, "");
        int at = text.indexOf(folded(sentence));
        Check.holds("'" + sentence + "' stands at " + place, at >= 0);
        while (at >= 0) {
            NAMED.get(place).set(at, at + folded(sentence).length());
            at = text.indexOf(folded(sentence), at + 1);
        }
    }

    static void due(String call, long got, long want) {
        answersOfCurrent++;
        Check.due("[" + current + "] " + call, got, want);
    }

    static void holds(String what, boolean so) {
        answersOfCurrent++;
        Check.holds("[" + current + "] " + what, so);
    }

    /** Two tellings of all that can be asked. */
    static void same(String what, String got, String want) {
        answersOfCurrent++;
        if (!got.equals(want)) {
            int at = 0;
            while (at < Math.min(got.length(), want.length()) && got.charAt(at) == want.charAt(at)) {
                at++;
            }
            System.out.println("   unlike: '" + part(got, at) + "', due is '" + part(want, at) + "'");
        }
        Check.holds("[" + current + "] " + what, got.equals(want));
    }

    private static String part(String text, int at) {
        return text.substring(Math.max(0, at - 30), Math.min(text.length(), at + 30));
    }

    /** Every word from the terms on has been named. */
    static void close() {
        for (Map.Entry<String, String> region : REGIONS.entrySet()) {
            if (region.getKey().equals("What it is")) {
                continue;
            }
            StringBuilder left = new StringBuilder();
            for (int i = 0; i < region.getValue().length(); i++) {
                char c = region.getValue().charAt(i);
                boolean word = Character.isLetterOrDigit(c);
                if (!NAMED.get(region.getKey()).get(i) && (word || left.length() > 0 && left.charAt(left.length() - 1) != ' ')) {
                    left.append(word ? c : ' ');
                }
            }
            Check.holds("no test names at " + region.getKey() + ": '" + left + "'", left.toString().isBlank());
        }
    }
}
