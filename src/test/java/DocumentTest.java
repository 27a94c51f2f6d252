import java.io.IOException;
import java.lang.reflect.Method;
import java.lang.reflect.Modifier;
import java.nio.file.DirectoryStream;
import java.nio.file.Files;
import java.nio.file.Path;
import java.util.Set;
import java.util.TreeSet;
import java.util.regex.Matcher;
import java.util.regex.Pattern;

/**
 * The document from its first line: the face that it shows is the one that is compiled, and all words of
 * its terms and promises are quoted by the tests that hold them.
 */
public final class DocumentTest {
    private static final Due DUE = new Due();
    private static final Path DOC = Path.of("../shared/DOC.md");
    private static final Path TESTS = Path.of("src/test/java");
    private static final int PROMISES = 36;

    /** Headings, fences and the heads of the calls, which the face holds already. */
    private static final String[] NO_WORDS = {"(?m)^## .*$", "(?m)^```.*$", "==== [IVX]+\\.",
        "`(int )?\\w+\\([^)]*\\)`:"};

    public static void main(String[] args) throws IOException {
        String doc = Files.readString(DOC);
        face(doc);
        promises(doc);
        words(doc);
        DUE.close();
    }

    private static void is(String what, boolean holds) {
        DUE.due(what, holds ? 1 : 0, 1);
    }

    private static void face(String doc) {
        Set<String> told = new TreeSet<>();
        Matcher matcher = Pattern.compile("(?m)^    public int (\\w+)\\(([^)]*)\\);$").matcher(doc);
        while (matcher.find()) {
            told.add(matcher.group(1) + " " + (matcher.group(2).isEmpty() ? 0 : matcher.group(2).split(",").length));
        }
        Set<String> compiled = new TreeSet<>();
        for (Method method : FoxReply.class.getDeclaredMethods()) {
            if (Modifier.isPublic(method.getModifiers())) {
                compiled.add(method.getName() + " " + method.getParameterCount());
            }
        }
        is("the document's face " + told + " is " + compiled, told.equals(compiled));
        DUE.due("a promise for each method and for the new object", told.size() + 1, PROMISES);
    }

    private static void promises(String doc) {
        Matcher matcher = Pattern.compile("(?m)^## Promise (\\d+): ").matcher(doc);
        int many = 0;
        while (matcher.find()) {
            many++;
            DUE.due("promise", Integer.parseInt(matcher.group(1)), many);
        }
        DUE.due("promises", many, PROMISES);
    }

    /** Quoted letters become blanks; what letters and digits are left then are held by no test. */
    private static void words(String doc) throws IOException {
        int begin = doc.indexOf("\n## Terms");
        int end = doc.indexOf("\n## Not promised");
        is("terms and promises stand there", begin >= 0 && begin < end);
        StringBuilder left = new StringBuilder(doc.substring(begin, end));
        for (String pattern : NO_WORDS) {
            Matcher matcher = Pattern.compile(pattern).matcher(doc.substring(begin, end));
            while (matcher.find()) {
                blank(left, matcher.start(), matcher.end());
            }
        }
        String terms = doc.substring(begin, end);
        for (String quote : quotes()) {
            for (int at = terms.indexOf(quote); at >= 0; at = terms.indexOf(quote, at + 1)) {
                blank(left, at, at + quote.length());
            }
        }
        for (String words : left.toString().split(" {2,}|\n")) {
            is("held by no test: " + words.trim(), !words.matches(".*\\w.*"));
        }
    }

    private static void blank(StringBuilder text, int from, int to) {
        for (int i = from; i < to; i++) {
            text.setCharAt(i, ' ');
        }
    }

    private static Set<String> quotes() throws IOException {
        Set<String> quotes = new TreeSet<>();
        Pattern quote = Pattern.compile("E\\.sentence\\(\"((?:[^\"\\\\]|\\\\.)*)\"\\);");
        try (DirectoryStream<Path> files = Files.newDirectoryStream(TESTS, "*EdgeTest.java")) {
            for (Path file : files) {
                Matcher matcher = quote.matcher(Files.readString(file));
                while (matcher.find()) {
                    quotes.add(matcher.group(1));
                }
            }
        }
        return quotes;
    }
}
