import java.io.IOException;
import java.io.PrintWriter;
import java.io.StringWriter;
import java.nio.file.DirectoryStream;
import java.nio.file.Files;
import java.nio.file.Path;
import java.util.ArrayList;
import java.util.List;
import java.util.Map;
import java.util.Optional;
import java.util.Set;
import java.util.TreeMap;
import java.util.TreeSet;
import java.util.regex.Matcher;
import java.util.regex.Pattern;
import java.util.spi.ToolProvider;

/** LANGUAGE.md 8 and 11, by the compiled class: who calls whom, how deep, and who calls itself. */
public final class DepthTest {
    private static final Due DUE = new Due();
    private static final int MOST_DEEP = 8;
    private static final Set<String> RECURSIONS = Set.of("FoxReply$RowSearch.search");
    private static final Pattern CLASS = Pattern.compile("^\\S.*\\bclass (FoxReply\\S*) .*");
    private static final Pattern METHOD = Pattern.compile("^ {2}(?! ).*?([\\w$]+)\\(.*\\);$");
    private static final Pattern CALL = Pattern.compile(".*// Method (?:([\\w/$.]+)\\.)?\"?([\\w<>]+)\"?:.*");

    public static void main(String[] args) throws IOException {
        Optional<ToolProvider> javap = ToolProvider.findFirst("javap");
        if (javap.isEmpty()) {
            System.out.println("no javap in this Java: not looked at");
            return;
        }
        Map<String, Set<String>> calls = new TreeMap<>();
        for (String file : classFiles()) {
            StringWriter out = new StringWriter();
            javap.get().run(new PrintWriter(out), new PrintWriter(out), "-c", "-p", file);
            readCalls(out.toString(), calls);
        }
        DUE.due("methods were read", calls.containsKey("FoxReply.step") ? 1 : 0, 1);
        for (String method : calls.keySet()) {
            boolean isRecursion = reaches(calls, method);
            DUE.due(method + " calls itself", isRecursion ? 1 : 0, RECURSIONS.contains(method) ? 1 : 0);
            List<String> chain = deepest(calls, method, new ArrayList<>());
            DUE.due(chain + " is too deep", chain.size() > MOST_DEEP ? 1 : 0, 0);
        }
        DUE.close();
    }

    private static List<String> classFiles() throws IOException {
        Path at = Path.of(System.getProperty("java.class.path"));
        List<String> files = new ArrayList<>();
        try (DirectoryStream<Path> found = Files.newDirectoryStream(at, "FoxReply*.class")) {
            for (Path file : found) {
                files.add(file.toString());
            }
        }
        return files;
    }

    private static void readCalls(String text, Map<String, Set<String>> calls) {
        String name = "";
        String method = "";
        for (String line : text.split("\n")) {
            Matcher type = CLASS.matcher(line);
            Matcher begin = METHOD.matcher(line);
            Matcher call = CALL.matcher(line);
            if (type.matches()) {
                name = type.group(1);
            } else if (begin.matches()) {
                method = name + "." + (begin.group(1).equals(name) ? "<init>" : begin.group(1));
                calls.computeIfAbsent(method, key -> new TreeSet<>());
            } else if (call.matches()) {
                String of = call.group(1) == null ? name : call.group(1).replace('/', '.');
                calls.get(method).add(of + "." + call.group(2));
            }
        }
    }

    private static boolean reaches(Map<String, Set<String>> calls, String method) {
        Set<String> seen = new TreeSet<>();
        List<String> open = new ArrayList<>(calls.get(method));
        while (!open.isEmpty()) {
            String next = open.remove(open.size() - 1);
            if (seen.add(next)) {
                open.addAll(calls.getOrDefault(next, Set.of()));
            }
        }
        return seen.contains(method);
    }

    /** The longest chain of calls from a method on, none of them twice. */
    private static List<String> deepest(Map<String, Set<String>> calls, String method, List<String> above) {
        List<String> best = List.of();
        above.add(method);
        for (String next : calls.getOrDefault(method, Set.of())) {
            if (!above.contains(next)) {
                List<String> chain = deepest(calls, next, above);
                best = chain.size() > best.size() ? chain : best;
            }
        }
        above.remove(above.size() - 1);
        List<String> chain = new ArrayList<>(List.of(method));
        chain.addAll(best);
        return chain;
    }
}
