import java.io.File;
import java.io.IOException;
import java.nio.file.Files;
import java.nio.file.Path;
import java.util.ArrayList;
import java.util.List;
import java.util.concurrent.ExecutorService;
import java.util.concurrent.Executors;
import java.util.concurrent.Future;
import java.util.concurrent.TimeUnit;
import java.util.regex.Matcher;
import java.util.regex.Pattern;
import javax.tools.ToolProvider;

/**
 * Changes FoxReply in one place at a time and prints each change that no EdgeTest sees. It takes some
 * minutes, so .ci/run doesn't: java -cp build/own Mutants [first line] [last line]
 */
public final class Mutants {
    private static final Path SOURCE = Path.of("src/main/java/FoxReply.java");
    private static final String[] TESTS = {"TextEdgeTest", "StepEdgeTest", "AskEdgeTest", "CallEdgeTest"};
    private static final int SECONDS = 30;

    /** What is looked for, and what may stand there in its place; # is the number that was found. */
    private static final String[][] CHANGES = {
        {"(?<= )<(?= )", "<=", ">"}, {"(?<= )<=(?= )", "<", ">="}, {"(?<= )>(?= )", ">=", "<"},
        {"(?<= )>=(?= )", ">", "<="}, {"(?<= )==(?= )", "!="}, {"(?<= )!=(?= )", "=="},
        {"(?<= )&&(?= )", "||"}, {"(?<= )\\|\\|(?= )", "&&"},
        {"(?<=[\\w)\\]] )\\+(?= [\\w(])", "-"}, {"(?<=[\\w)\\]] )-(?= [\\w(])", "+"},
        {"(?<=[\\w)\\]] )\\*(?= [\\w(])", "/"}, {"(?<=[\\w)\\]] )[/%](?= [\\w(])", "*"},
        {"\\+\\+(?=[;)])", "--"}, {"--(?=[;)])", "++"},
        {"\\+=", "-="}, {"-=", "+="}, {"\\^=", "|="},
        {"(?<=return )true", "false"}, {"(?<=return )false", "true"},
        {"(?<![\\w.'])\\d+(?![\\w.'])", "(# + 1)", "(# - 1)"},
        {"(?<=\n {4,40})(?!return|int|long|boolean|this|break)[a-z][\\w.\\[\\]]*(\\([^\n{]*\\)| [-+|^]?= [^\n;]*|\\+\\+|--);", ";"},
    };

    private record Change(int from, int to, String text) {}

    private final String source = Files.readString(SOURCE);
    private final String code = withoutComments(source);
    private final Path room = Files.createTempDirectory("mutants");
    private final String classes = System.getProperty("java.class.path");

    private Mutants() throws IOException {}

    public static void main(String[] args) throws Exception {
        int first = args.length > 0 ? Integer.parseInt(args[0]) : 1;
        int last = args.length > 1 ? Integer.parseInt(args[1]) : Integer.MAX_VALUE;
        new Mutants().run(first, last);
    }

    private static String withoutComments(String text) {
        Matcher matcher = Pattern.compile("(?s)/\\*.*?\\*/|//[^\n]*|\"[^\"\n]*\"").matcher(text);
        return matcher.replaceAll(found -> found.group().replaceAll("[^\n]", "~"));
    }

    private int lineOf(int place) {
        return (int) source.substring(0, place).chars().filter(c -> c == '\n').count() + 1;
    }

    private List<Change> changes(int firstLine, int lastLine) {
        List<Change> all = new ArrayList<>();
        for (String[] change : CHANGES) {
            Matcher matcher = Pattern.compile(change[0]).matcher(code);
            while (matcher.find()) {
                int line = lineOf(matcher.start());
                for (int i = 1; i < change.length && line >= firstLine && line <= lastLine; i++) {
                    all.add(new Change(matcher.start(), matcher.end(), change[i].replace("#", matcher.group())));
                }
            }
        }
        return all;
    }

    private void run(int firstLine, int lastLine) throws Exception {
        List<Change> all = changes(firstLine, lastLine);
        System.out.println(all.size() + " changes");
        ExecutorService workers = Executors.newFixedThreadPool(Runtime.getRuntime().availableProcessors());
        List<Future<Boolean>> seen = new ArrayList<>();
        for (int i = 0; i < all.size(); i++) {
            int number = i;
            seen.add(workers.submit(() -> isSeen(all.get(number), number)));
        }
        int unseen = 0;
        for (int i = 0; i < all.size(); i++) {
            if (!seen.get(i).get()) {
                unseen++;
                int line = lineOf(all.get(i).from);
                System.out.println(line + ": " + all.get(i).text + " | " + source.split("\n")[line - 1].trim());
            }
        }
        workers.shutdown();
        System.out.println(unseen + " not seen");
    }

    /** What doesn't compile or doesn't end is seen, too. */
    private boolean isSeen(Change change, int number) throws Exception {
        Path place = Files.createDirectory(room.resolve("m" + number));
        Path file = place.resolve("FoxReply.java");
        Files.writeString(file, source.substring(0, change.from) + change.text + source.substring(change.to));
        int compiled = ToolProvider.getSystemJavaCompiler().run(null, null, java.io.OutputStream.nullOutputStream(),
                "-nowarn", "-d", place.toString(), file.toString());
        boolean isSeen = compiled != 0;
        for (int i = 0; i < TESTS.length && !isSeen; i++) {
            isSeen = fails(TESTS[i], place);
        }
        for (File each : place.toFile().listFiles()) {
            Files.delete(each.toPath());
        }
        Files.delete(place);
        return isSeen;
    }

    private boolean fails(String test, Path place) throws Exception {
        Process process = new ProcessBuilder("java", "-XX:TieredStopAtLevel=1", "-XX:+UseSerialGC",
                "-cp", place + File.pathSeparator + classes, test)
                .redirectOutput(ProcessBuilder.Redirect.DISCARD)
                .redirectError(ProcessBuilder.Redirect.DISCARD).start();
        if (!process.waitFor(SECONDS, TimeUnit.SECONDS)) {
            process.destroyForcibly().waitFor();
            return true;
        }
        return process.exitValue() != 0;
    }
}
