import java.io.IOException;
import java.io.UncheckedIOException;
import java.nio.file.Files;
import java.nio.file.Path;
import java.util.ArrayList;
import java.util.List;
import java.util.TreeMap;
import java.util.regex.Matcher;
import java.util.regex.Pattern;

/**
 * A test of sentences of the document that name one boundary case. The document itself is read: a
 * sentence that is not in it is an error, and so is a sentence of it that has neither a test nor is
 * named as one without a boundary.
 */
final class Edge {
    private static final Path DOCUMENT = Path.of("../shared/DOC.md");
    // By section ("1" to "12"), promise ("P1" to "P63") or heading: the pieces of its sentences.
    private static final TreeMap<String, List<String>> PIECES = read();
    private static final TreeMap<String, List<String>> TESTED = new TreeMap<>();

    private final String where;
    private final String sentence;

    private Edge(String where, String sentence) {
        this.where = where;
        this.sentence = sentence;
    }

    /** What holds(..) will test: sentences, or parts of them, of one section or promise. */
    static Edge of(String where, String... sentences) {
        for (String sentence : sentences) {
            note(where, sentence);
        }
        return new Edge(where, sentences[0]);
    }

    /** The same parameters and exceptions stand at several promises. */
    Edge and(String there, String... sentences) {
        for (String one : sentences) {
            note(there, one);
        }
        return this;
    }

    private static void note(String where, String sentence) {
        boolean isThere = String.join(" ", PIECES.getOrDefault(where, List.of())).contains(sentence);
        Kit.same(where + " says \"" + sentence + "\"", isThere, true);
        TESTED.computeIfAbsent(where, w -> new ArrayList<>()).add(sentence);
    }

    void holds(Runnable test) {
        Kit.context = where + ": \"" + sentence + "\": ";
        try {
            test.run();
        } catch (RuntimeException e) {
            Kit.same("the test", e.toString(), "ends");
        }
        Kit.context = "";
    }

    /** Each piece has a test, or is one of these (as "section: piece"), but not both. */
    static void checkAllTested(List<String> withoutEdge) {
        List<String> left = new ArrayList<>(withoutEdge);
        for (String where : PIECES.keySet()) {
            for (String piece : PIECES.get(where)) {
                boolean isNamed = left.remove(where + ": " + piece);
                if (isNamed == isTested(where, piece)) {
                    Kit.same(where + ": " + piece, isNamed ? "tested all the same" : "not tested",
                            "tested, or named as without a boundary");
                }
            }
        }
        Kit.same("named as without a boundary, but not there", left.toString(), "[]");
    }

    private static boolean isTested(String where, String piece) {
        for (String sentence : TESTED.getOrDefault(where, List.of())) {
            if (piece.contains(sentence) || sentence.contains(piece)) {
                return true;
            }
        }
        return false;
    }

    /** All promises whose text says this. */
    static List<String> promisesThatSay(String text) {
        List<String> found = new ArrayList<>();
        PIECES.forEach((where, pieces) -> {
            if (where.startsWith("P") && pieces.contains(text)) {
                found.add(where);
            }
        });
        return found;
    }

    private static TreeMap<String, List<String>> read() {
        TreeMap<String, List<String>> pieces = new TreeMap<>();
        String where = "0";
        for (String line : lines()) {
            Matcher section = Pattern.compile("(\\d+)\\. [A-Z][\\w ,]*").matcher(line);
            Matcher promise = Pattern.compile("## Promise (\\d+): .*").matcher(line);
            if (section.matches()) {
                where = section.group(1);
            } else if (promise.matches()) {
                where = "P" + promise.group(1);
            } else if (line.startsWith("## What") || line.startsWith("## Terms")) {
                where = line.substring(3);
            } else if (line.startsWith("## ")) {
                where = "0";
            } else if (!where.equals("0") && !line.startsWith("Ahead of the calls")) {
                pieces.computeIfAbsent(where, w -> new ArrayList<>()).addAll(cut(line));
            }
        }
        return pieces;
    }

    private static List<String> lines() {
        try {
            return Files.readAllLines(DOCUMENT);
        } catch (IOException e) {
            throw new UncheckedIOException(e);
        }
    }

    /** Cuts a line behind points, colons and semicolons; without the face of a call, and marks. */
    private static List<String> cut(String line) {
        String text = line.strip().replaceFirst("^`\\w+ ?\\w*\\([^`]*`: ", "");
        List<String> cuts = new ArrayList<>();
        if (text.startsWith("- `")) {
            cuts.add(text);
            return cuts;
        }
        for (String piece : text.split("(?<=[.;:]) +(?=[\\w\"`(])")) {
            if (!piece.isBlank() && !piece.startsWith("```")) {
                cuts.add(piece);
            }
        }
        return cuts;
    }
}
