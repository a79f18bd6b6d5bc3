import java.io.PrintWriter;
import java.io.StringWriter;
import java.nio.file.Files;
import java.nio.file.Path;
import java.util.ArrayList;
import java.util.HashMap;
import java.util.List;
import java.util.Map;
import java.util.Set;
import java.util.TreeMap;
import java.util.TreeSet;
import java.util.regex.Matcher;
import java.util.regex.Pattern;
import java.util.spi.ToolProvider;

/** Which method calls which, as the compiled class tells it: rules 8, 11 and 12 of LANGUAGE.md. */
public final class CallsTest {
    private static final Checks CHECKS = new Checks();
    private static final Pattern CLASS = Pattern.compile("^[\\w ]*class (PaperStars[\\w$]*).*");
    private static final Pattern METHOD = Pattern.compile("^  (?:[^ (]+ )*([\\w$]+)\\(.*\\);$");
    private static final Pattern CALL =
            Pattern.compile("// Method (?:(PaperStars[\\w$]*)\\.)?\"?([\\w<>]+)\"?:.*");
    private static final Set<String> RECURSIONS = Set.of("[PaperStars$Cover.covers]",
            "[PaperStars$Reader.readCondition, PaperStars$Reader.readPart, PaperStars$Reader.readPiece]",
            "[PaperStars$Reader.readFactor, PaperStars$Reader.readSum, PaperStars$Reader.readTerm]");

    private final Map<String, Set<String>> calls = new TreeMap<>();
    private final Map<String, Set<String>> reached = new HashMap<>();
    private final Map<String, Integer> depths = new HashMap<>();
    private final Set<String> makers = new TreeSet<>();

    public static void main(String[] args) throws Exception {
        CallsTest test = new CallsTest();
        test.read(disassembled());
        test.ask();
        CHECKS.end();
    }

    private static String disassembled() throws Exception {
        Path classes = Path.of(
                PaperStars.class.getProtectionDomain().getCodeSource().getLocation().toURI());
        List<String> words = new ArrayList<>(List.of("-p", "-c"));
        try (var files = Files.list(classes)) {
            files.map(Path::toString).filter(f -> f.matches(".*PaperStars(\\$\\w+)?\\.class"))
                    .sorted().forEach(words::add);
        }
        StringWriter text = new StringWriter();
        PrintWriter out = new PrintWriter(text);
        int exit = ToolProvider.findFirst("javap").orElseThrow()
                .run(out, out, words.toArray(new String[0]));
        CHECKS.due("javap", exit, 0);
        return text.toString();
    }

    private void read(String text) {
        String inClass = "";
        String method = "";
        for (String line : text.split("\n")) {
            Matcher begins = CLASS.matcher(line);
            Matcher heads = METHOD.matcher(line);
            Matcher called = CALL.matcher(line);
            if (begins.matches()) {
                inClass = begins.group(1);
            } else if (heads.matches()) {
                boolean constructs = inClass.equals(heads.group(1));
                method = inClass + "." + (constructs ? "<init>" : heads.group(1));
                calls.putIfAbsent(method, new TreeSet<>());
            } else if (called.find() && !line.contains("java/")) {
                String owner = called.group(1) == null ? inClass : called.group(1);
                calls.get(method).add(owner + "." + called.group(2));
            }
            if (line.matches(".*: (new|newarray|anewarray|multianewarray) .*")) {
                makers.add(method);
            }
        }
    }

    private void ask() {
        CHECKS.due("methods found: " + calls.size(), calls.size() > 100, true);
        for (String method : calls.keySet()) {
            Set<String> far = new TreeSet<>();
            reach(method, far);
            reached.put(method, far);
        }
        Set<String> recursions = new TreeSet<>();
        for (String method : calls.keySet()) {
            if (reached.get(method).contains(method)) {
                recursions.add(ring(method).toString());
            }
            CHECKS.due(method + " goes " + depth(method) + " deep", depth(method) <= 8, true);
        }
        CHECKS.due("recursions " + recursions, recursions.equals(RECURSIONS), true);
        for (String maker : makers) {
            CHECKS.due("makes objects: " + maker, maker.endsWith("<init>"), true);
        }
    }

    private void reach(String method, Set<String> far) {
        for (String next : calls.getOrDefault(method, Set.of())) {
            if (far.add(next)) {
                reach(next, far);
            }
        }
    }

    /** The methods that call one another with this one; itself at least. */
    private Set<String> ring(String method) {
        Set<String> ring = new TreeSet<>(Set.of(method));
        for (String other : reached.get(method)) {
            if (reached.getOrDefault(other, Set.of()).contains(method)) {
                ring.add(other);
            }
        }
        return ring;
    }

    /** How many calls stand open at most, a recursion counted as one. */
    private int depth(String method) {
        Integer known = depths.get(method);
        if (known != null) {
            return known;
        }
        int deepest = 0;
        Set<String> ring = ring(method);
        for (String member : ring) {
            for (String next : calls.get(member)) {
                if (!ring.contains(next) && calls.containsKey(next)) {
                    deepest = Math.max(deepest, depth(next));
                }
            }
        }
        depths.put(method, deepest + 1);
        return deepest + 1;
    }
}
