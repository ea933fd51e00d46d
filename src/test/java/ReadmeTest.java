import java.io.IOException;
import java.lang.reflect.Method;
import java.lang.reflect.Modifier;
import java.nio.file.Files;
import java.nio.file.Path;
import java.util.ArrayList;
import java.util.Arrays;
import java.util.HashMap;
import java.util.List;
import java.util.Map;
import java.util.Random;
import java.util.Set;
import java.util.TreeMap;
import java.util.TreeSet;
import java.util.regex.Matcher;
import java.util.regex.Pattern;
import java.util.stream.Collectors;
import java.util.stream.Stream;

/** README.md: what it says must hold for the class as it stands. It is read from the directory of the project. */
public final class ReadmeTest {
    private static final Check check = new Check();
    private static final Pattern EXAMPLE_LINE = Pattern.compile(
        "int (\\w+) = fabric\\.(\\w+)\\((.*)\\); +// (-?\\d+).*");
    private static final Pattern CALL_ROW = Pattern.compile("\\| `(\\w+)\\(([^)]*)\\)` \\|.*\\|([^|]*)\\|");
    private static final Pattern ERROR_ROW = Pattern.compile("\\| `(\\w+)` \\| (-?\\d+) \\|(.*)\\|");
    private static final String[] TEXTS = {
        "h3(h3(h3(h3)))", "s1d3(n3)", "h3(s3s3)d3", "h3(d3n3s3)s3", "d3n3", "h3(s3s3s3)h3(s3s3)", "n3n3", "h".repeat(60), ""};
    private static final int RUNS = 300;
    private static final int CALLS = 450;

    public static void main(String[] args) throws Exception {
        List<String> lines = Files.readAllLines(Path.of("README.md"));
        example(lines);
        textOfTheExample(lines);
        Map<String, Set<String>> refusals = calls(lines);
        Map<String, Set<String>> errors = errors(lines);
        errorsOfCalls(refusals, errors);
        answers(refusals);
        testsOfTheList(lines);
        check.end();
    }

    /** Makes the calls of the example, line by line, with the names that it has given to answers before. */
    private static void example(List<String> lines) throws Exception {
        check.part("README, the example");
        int first = lines.indexOf("```java") + 1;
        int end = first + lines.subList(first, lines.size()).indexOf("```");
        check.due(0, "TunnelFabric fabric = new TunnelFabric();".compareTo(lines.get(first)), "its first line");
        TunnelFabric fabric = new TunnelFabric();
        Map<String, Integer> named = new HashMap<>();
        for (String line : lines.subList(first + 1, end)) {
            Matcher call = EXAMPLE_LINE.matcher(line);
            check.dueTrue(call.matches(), "form of " + line);
            int[] values = Arrays.stream(call.group(3).split(", ")).mapToInt(word -> value(word, named)).toArray();
            int answer = (int) answer(fabric, methods().get(call.group(2)), values);
            check.due(Integer.parseInt(call.group(4)), answer, line);
            named.put(call.group(1), answer);
        }
    }

    private static void textOfTheExample(List<String> lines) {
        check.part("README, the text of the example");
        String text = "h3(s3d1)";
        check.dueTrue(lines.stream().anyMatch(line -> line.contains("as the text `" + text + "`")), "it stands there");
        TunnelFabric plugged = new TunnelFabric();
        plugged.plug(0, 0, TunnelFabric.HUB, 3);
        plugged.plug(1, 0, TunnelFabric.SCREEN, 3);
        plugged.plug(1, 1, TunnelFabric.DISK, 1);
        check.due(plugged.digest(), Fabrics.built(text).digest(), "digest()");
    }

    private static int value(String word, Map<String, Integer> named) {
        if (named.containsKey(word)) {
            return named.get(word);
        }
        return word.startsWith("TunnelFabric.") ? constant(word.substring(13)) : Integer.parseInt(word);
    }

    private static int constant(String name) {
        try {
            return TunnelFabric.class.getField(name).getInt(null);
        } catch (ReflectiveOperationException e) {
            throw new IllegalArgumentException("no such constant: " + name, e);
        }
    }

    private static Map<String, Method> methods() {
        Map<String, Method> all = new TreeMap<>();
        for (Method method : TunnelFabric.class.getDeclaredMethods()) {
            if (Modifier.isPublic(method.getModifiers())) {
                all.put(method.getName(), method);
            }
        }
        return all;
    }

    private static long answer(TunnelFabric fabric, Method method, int[] values) throws ReflectiveOperationException {
        Class<?>[] types = method.getParameterTypes();
        Object[] objects = new Object[types.length];
        for (int i = 0; i < types.length; i++) {
            objects[i] = types[i] == boolean.class ? (Object) (values[i] > 0) : (Object) values[i];
        }
        return ((Number) method.invoke(fabric, objects)).longValue();
    }

    /** Every call of the face has a row, and no other; returns what each may answer besides its number. */
    private static Map<String, Set<String>> calls(List<String> lines) {
        check.part("README, the calls");
        Map<String, Set<String>> refusals = new TreeMap<>();
        for (String line : lines) {
            Matcher row = CALL_ROW.matcher(line);
            if (row.matches()) {
                Method method = methods().get(row.group(1));
                int parameters = row.group(2).isEmpty() ? 0 : row.group(2).split(", ").length;
                check.dueTrue(method != null && method.getParameterCount() == parameters, "row of " + row.group(1));
                refusals.put(row.group(1), words(row.group(3), "\\w+"));
            }
        }
        check.dueTrue(refusals.keySet().equals(methods().keySet()), "the calls are those of the face: " + refusals);
        return refusals;
    }

    private static Set<String> words(String text, String form) {
        Matcher word = Pattern.compile(form).matcher(text);
        return word.results().map(found -> found.group().replace("`", "")).collect(Collectors.toCollection(TreeSet::new));
    }

    /** The errors stand in the order in which they count, with their values; returns the calls that each one names. */
    private static Map<String, Set<String>> errors(List<String> lines) {
        check.part("README, the errors");
        Map<String, Set<String>> callsOf = new HashMap<>();
        int due = -1;
        for (String line : lines) {
            Matcher row = ERROR_ROW.matcher(line);
            if (row.matches()) {
                check.due(due, Integer.parseInt(row.group(2)), row.group(1));
                check.due(due, constant(row.group(1)), row.group(1));
                callsOf.put(row.group(1), words(row.group(3), "`\\w+`"));
                due--;
            }
        }
        check.due(TunnelFabric.STATE - 1, due, "the value after the last one");
        check.dueTrue(lines.stream().anyMatch(line -> line.startsWith("`NONE`, " + TunnelFabric.NONE)), "NONE");
        return callsOf;
    }

    /** Both tables must say the same of which call answers which error; BAD names no calls. */
    private static void errorsOfCalls(Map<String, Set<String>> refusals, Map<String, Set<String>> errors) {
        check.part("README, the errors of the calls");
        errors.forEach((error, calls) -> {
            Set<String> due = refusals.keySet().stream().filter(call -> refusals.get(call).contains(error))
                .collect(Collectors.toCollection(TreeSet::new));
            check.dueTrue(error.equals("BAD") ? calls.isEmpty() : calls.equals(due), error + " of " + due);
        });
    }

    /** Over many runs, each call answers, besides numbers from 0 on, just what its row says. */
    private static void answers(Map<String, Set<String>> refusals) throws Exception {
        check.part("README, what the calls answer");
        Map<Integer, String> names = new HashMap<>();
        for (String name : List.of("BAD", "WRONG_KIND", "OCCUPIED", "TOO_DEEP", "FULL", "NO_CREDIT", "NO_BANDWIDTH",
            "STATE", "NONE")) {
            names.put(constant(name), name);
        }
        Map<String, Set<String>> seen = new TreeMap<>();
        methods().keySet().forEach(name -> seen.put(name, new TreeSet<>()));
        for (int run = 0; run < RUNS; run++) {
            callAtRandom(new Random(run), TEXTS[run % TEXTS.length], names, seen);
        }
        seen.get("digest").clear();
        for (String name : refusals.keySet()) {
            check.dueTrue(seen.get(name).equals(refusals.get(name)), name + " answers " + seen.get(name));
        }
    }

    private static void callAtRandom(Random random, String text, Map<Integer, String> names,
            Map<String, Set<String>> seen) throws Exception {
        TunnelFabric fabric = new TunnelFabric();
        Fabrics.write(fabric, text);
        fabric.build();
        List<Method> all = new ArrayList<>(methods().values());
        // Calls that fill a fabric are made more often than those that empty it.
        all.removeIf(method -> List.of("build", "clearText", "unplug", "close").contains(method.getName())
            && random.nextInt(2) == 0);
        for (int i = 0; i < 8; i++) {
            all.add(methods().get("open"));
            all.add(methods().get(i % 2 == 0 ? "type" : "plug"));
            all.add(methods().get(i % 2 == 0 ? "widen" : "claim"));
        }
        for (int i = 0; i < CALLS; i++) {
            Method method = all.get(random.nextInt(all.size()));
            long answer = answer(fabric, method, someValues(random, method.getName()));
            if (answer < 0) {
                seen.get(method.getName()).add(names.getOrDefault((int) answer, "" + answer));
            }
        }
    }

    /** Mostly small numbers; cells and bandwidths are mostly greater. */
    private static int[] someValues(Random random, String call) {
        int[] values = new int[4];
        for (int i = 0; i < values.length; i++) {
            values[i] = random.nextInt(20) == 0 ? -1 : random.nextInt(1 + random.nextInt(8));
        }
        if (call.equals("offer")) {
            values[2] = 1 + random.nextInt(99);
        } else if (call.equals("open")) {
            values[2] = 1 + random.nextInt(12);
        } else if (call.equals("claim")) {
            values[1] = 1 + random.nextInt(12);
        }
        return values;
    }

    private static void testsOfTheList(List<String> lines) throws IOException {
        check.part("README, the list of tests");
        int first = lines.indexOf("## How to run its tests");
        String list = lines.subList(first, lines.size()).stream().filter(line -> !line.startsWith("java"))
            .collect(Collectors.joining(" "));
        Set<String> found = new TreeSet<>();
        try (Stream<Path> files = Files.list(Path.of("src/test/java"))) {
            files.map(file -> file.getFileName().toString()).filter(name -> name.endsWith("Test.java"))
                .forEach(name -> found.add(name.substring(0, name.length() - 5)));
        }
        check.dueTrue(words(list, "`\\w+Test`").equals(found), "the tests of the list are those that are there: " + found);
    }
}
