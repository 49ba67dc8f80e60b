import java.io.IOException;
import java.nio.file.Files;
import java.nio.file.Path;
import java.util.Set;
import java.util.TreeSet;

/** Names the promise and the sentence that the answers behind it are due by, as they stand in ../shared/DOC.md. */
final class Edge {
    static final int LOW = Integer.MIN_VALUE;
    static final int HIGH = Integer.MAX_VALUE;

    private static final Path DOCUMENT = Path.of("../shared/DOC.md");
    private static final Set<Integer> NAMED = new TreeSet<>();
    private static int answersBefore = 0;
    private static String latest = "";

    private Edge() {
    }

    /** A sentence of the promise's own section, of the terms it is told in, or of what the class is. */
    static void sentence(int promise, String words) {
        closeLatest();
        latest = "promise " + promise + ", \"" + words + "\": ";
        Check.under(latest);
        NAMED.add(promise);
        Check.due("the document says so", quoted(promise, words), true);
        answersBefore = Check.answers();
    }

    /** A sentence without a single answer would hold whatever the hill does. */
    private static void closeLatest() {
        if (!latest.isEmpty()) {
            Check.due("answers that are held against it", Check.answers() > answersBefore, true);
        }
    }

    /** Ends the test, in which each of these promises must have been named. */
    static void finish(int... promises) {
        closeLatest();
        Check.under("");
        for (int promise : promises) {
            Check.due("promise " + promise + " is named", NAMED.contains(promise), true);
        }
        Check.finish();
    }

    private static boolean quoted(int promise, String words) {
        String document = read();
        return document.isEmpty() || section(document, "## Promise " + promise + ":").contains(words)
            || section(document, "## Terms").contains(words) || section(document, "## What it is").contains(words);
    }

    private static String section(String document, String title) {
        int from = document.indexOf(title);
        int to = document.indexOf(" ## ", Math.max(0, from));
        return from < 0 ? "" : document.substring(from, to < 0 ? document.length() : to);
    }

    /** Empty where the document does not lie beside the project: the answers are held against their sentences still. */
    private static String read() {
        try {
            return Files.readString(DOCUMENT).replaceAll("\\s+", " ");
        } catch (IOException e) {
            return "";
        }
    }
}
