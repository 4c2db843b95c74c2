import java.io.PrintWriter;
import java.io.StringWriter;
import java.nio.file.Files;
import java.nio.file.Path;
import java.util.ArrayList;
import java.util.List;
import java.util.Map;
import java.util.Set;
import java.util.TreeMap;
import java.util.TreeSet;
import java.util.regex.Matcher;
import java.util.regex.Pattern;
import java.util.spi.ToolProvider;
import java.util.stream.Stream;

/** Rules of LANGUAGE.md that show in the compiled class: who calls whom how deep, who makes what. */
public final class CallDepthTest {
    private static final int DEEPEST = 8;
    private static final Set<String> LIBRARY = Set.of("java/lang/Integer.bitCount", "java/lang/Math.max",
        "java/lang/Math.min", "java/lang/Object.<init>", "java/lang/String.charAt", "java/lang/String.length",
        "java/lang/System.arraycopy", "java/util/Arrays.fill");
    private static final Pattern CLASS = Pattern.compile("(?:public |final |static )*class (\\S+) \\{");
    private static final Pattern METHOD = Pattern.compile("  (?:[\\w.$\\[\\]]+ )*([\\w.$]+)\\(.*\\);");
    private static final Pattern INVOKED = Pattern.compile(".*: invoke\\w+ .*Method (\\S+):.*");
    private static final Pattern MADE = Pattern.compile(".*: (new|newarray|anewarray|multianewarray) .*");

    private final Map<String, Set<String>> calls = new TreeMap<>();

    public static void main(String[] args) throws Exception {
        CallDepthTest test = new CallDepthTest();
        test.readCode();
        Check.isTrue("methods are found", test.calls.size() > 100);
        test.libraryIsListed();
        for (String method : test.calls.keySet()) {
            List<String> way = test.longestWay(method, new ArrayList<>());
            Check.isTrue("at most " + DEEPEST + " deep: " + way, way.size() <= DEEPEST);
        }
        Check.end();
    }

    private static String codeOf(List<String> classes) {
        List<String> options = new ArrayList<>(List.of("-p", "-c"));
        options.addAll(classes);
        StringWriter text = new StringWriter();
        PrintWriter out = new PrintWriter(text);
        ToolProvider javap = ToolProvider.findFirst("javap").orElseThrow();
        Check.due("javap", javap.run(out, out, options.toArray(new String[0])), 0);
        return text.toString();
    }

    private static List<String> compiledClasses() throws Exception {
        Path folder = Path.of(AcreBuys.class.getProtectionDomain().getCodeSource().getLocation().toURI());
        List<String> classes = new ArrayList<>();
        try (Stream<Path> files = Files.list(folder)) {
            files.filter(f -> f.getFileName().toString().matches("AcreBuys(\\$.*)?\\.class"))
                .forEach(f -> classes.add(f.toString()));
        }
        return classes;
    }

    private void readCode() throws Exception {
        String owner = "";
        String method = "";
        for (String line : codeOf(compiledClasses()).split("\\R")) {
            Matcher ofClass = CLASS.matcher(line);
            Matcher ofMethod = METHOD.matcher(line);
            Matcher invoked = INVOKED.matcher(line);
            if (ofClass.matches()) {
                owner = ofClass.group(1);
            } else if (ofMethod.matches()) {
                String name = ofMethod.group(1);
                method = owner + "." + (name.equals(owner) ? "<init>" : name);
                calls.putIfAbsent(method, new TreeSet<>());
            } else if (invoked.matches()) {
                String name = invoked.group(1).replace("\"", "");
                calls.get(method).add(name.contains(".") ? name : owner + "." + name);
            } else if (MADE.matcher(line).matches()) {
                boolean isRow = method.endsWith("static {}");
                Check.isTrue("made in a constructor: " + method + line, isRow || method.endsWith(".<init>"));
            } else if (line.trim().equals("static {};")) {
                method = owner + ".static {}";
                calls.putIfAbsent(method, new TreeSet<>());
            }
        }
    }

    private void libraryIsListed() {
        for (Set<String> invoked : calls.values()) {
            for (String name : invoked) {
                Check.isTrue("listed or own: " + name, LIBRARY.contains(name) || calls.containsKey(name));
            }
        }
    }

    private List<String> longestWay(String method, List<String> above) {
        Check.isTrue("calls itself: " + method, !above.contains(method));
        List<String> longest = new ArrayList<>();
        if (!above.contains(method)) {
            above.add(method);
            for (String called : calls.getOrDefault(method, Set.of())) {
                List<String> way = longestWay(called, above);
                longest = way.size() > longest.size() ? way : longest;
            }
            above.remove(above.size() - 1);
        }
        List<String> way = new ArrayList<>(List.of(method));
        way.addAll(longest);
        return way;
    }
}
