import java.io.IOException;
import java.nio.file.Files;
import java.nio.file.Path;

/**
 * The tests of one promise. Each is named by the promise and by the very words of the document that
 * it holds the class to, so that a search for either finds it; words that the document does not
 * have (any more) are a failure of their own.
 */
final class Sentences {

    private static final Path DOCUMENT = Path.of("../shared/DOC.md");

    private final String promise;
    private final String document;

    /** The promise is named by its title in the document, such as "Promise 6: get". */
    Sentences(String promise) {
        this.promise = promise;
        this.document = read();
    }

    /** A test of words in the promise's own section. */
    void says(String words, String boundary, Runnable test) {
        hold(promise, words, boundary, test);
    }

    /** A test of words in the section "Terms", seen through this promise's method. */
    void term(String words, String boundary, Runnable test) {
        hold("Terms", words, boundary, test);
    }

    /** Ends the test's program, with 1 if one of the tests failed. */
    void end() {
        Check.end();
    }

    private void hold(String section, String words, String boundary, Runnable test) {
        String where = section.equals(promise) ? promise : promise + ", " + section;
        String name = where + " \"" + words + "\": " + boundary;
        int before = Check.wrong();
        Check.due("the document says so", stands(section, words), true);
        try {
            test.run();
        } catch (RuntimeException thrown) {
            Check.failed("the test ended by " + thrown);
        }
        System.out.println((Check.wrong() == before ? "  passed: " : "  FAILED: ") + name);
    }

    private boolean stands(String section, String words) {
        if (document == null) {
            return true;
        }
        int start = document.indexOf("## " + section + "\n");
        int next = document.indexOf("\n## ", start + 1);
        return start >= 0 && document.substring(start, next < 0 ? document.length() : next).contains(words);
    }

    /** Without the document the tests still test the class. */
    private static String read() {
        try {
            return Files.readString(DOCUMENT);
        } catch (IOException absent) {
            System.out.println("  no " + DOCUMENT + ": the tests' names are not held against it");
            return null;
        }
    }
}
