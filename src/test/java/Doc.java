import java.io.IOException;
import java.nio.file.Files;
import java.nio.file.Path;
import java.util.Set;
import java.util.TreeSet;

/** The document's sentences: each test of a boundary names its promise and the words that it holds. */
final class Doc {
    private static final Path PAGE = Path.of("../shared/DOC.md");
    private static final String TEXT = read();
    private static final Set<Integer> PROMISES = new TreeSet<>();
    private static final Set<String> HELD = new TreeSet<>();

    private Doc() { }

    private static String read() {
        try {
            return Files.readString(PAGE);
        } catch (IOException e) {
            throw new IllegalStateException("there is no " + PAGE, e);
        }
    }

    /** Words that stand under a promise's own heading. */
    static void promise(int number, String words, Runnable test) {
        hold(number, "", section("## Promise " + number + ":", "\n## "), words, test);
    }

    /** Words that stand in the Terms, and the promise through which they are seen. */
    static void term(String roman, int number, String words, Runnable test) {
        String next = switch (roman) {
            case "I" -> "\nII. ";
            case "II" -> "\nIII. ";
            case "III" -> "\nIV. ";
            default -> "\nThe constants: ";
        };
        hold(number, ", Terms " + roman, section("\n" + roman + ". ", next), words, test);
    }

    /** Words that stand between the Terms and the promises. */
    static void constant(int number, String words, Runnable test) {
        hold(number, ", the constants", section("\nThe constants: ", "\n## "), words, test);
    }

    /** Words that stand ahead of all others. */
    static void head(int number, String words, Runnable test) {
        hold(number, ", what it is", section("## What it is", "\n## "), words, test);
    }

    private static String section(String from, String to) {
        int start = TEXT.indexOf(from);
        int end = start < 0 ? -1 : TEXT.indexOf(to, start + 1);
        return end < 0 ? "" : TEXT.substring(start, end);
    }

    private static void hold(int number, String where, String section, String words, Runnable test) {
        String name = "promise " + number + where + ", '" + words + "': ";
        Check.about(name);
        Check.due("whether the document says so there", section.contains(words), true);
        Check.due("whether it has its own test", HELD.add(name), true);
        PROMISES.add(number);
        test.run();
        Check.about("");
    }

    static void everyPromiseIsHeld() {
        for (int number = 1; number <= 21; number++) {
            Check.due("whether promise " + number + " has a test", PROMISES.contains(number), true);
        }
        System.out.println(HELD.size() + " sentences of the document, each with a test of its own");
    }
}
