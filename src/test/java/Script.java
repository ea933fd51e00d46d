import java.lang.reflect.InvocationTargetException;
import java.lang.reflect.Method;
import java.util.ArrayList;
import java.util.HashMap;
import java.util.List;
import java.util.Map;
import java.util.regex.Matcher;
import java.util.regex.Pattern;

/**
 * Calls on a new object, written as in the document's examples and parted by lines or by ';':
 *
 * <pre>
 *   plug(0,0,HUB,3) = 1       the answer that is due (a number, a constant of the face, or a float such as 0.5f)
 *   tick(4)                   a call whose answer is not looked at
 *   unplug(0) ! BAD           a refused call: the answer, and that no later call shows a change
 *   digest() > before         keeps the answer by a name, to be due later: digest() = before
 *   60 * type(32)             a call made so many times
 *   text 'h3(s3)'             types each byte of the text
 * </pre>
 */
final class Script {
    private static final int MOST_CALLS = 512;
    private static final Pattern CALL = Pattern.compile(
        "(?:(\\d+) \\* )?(\\w+)\\(([^)]*)\\)(?: ([=!>]) (\\S+))?");
    private static final Pattern TEXT = Pattern.compile("text '(.*)'");
    private static final int[][] NO_ARGUMENTS = {{}};

    private final Check check;
    private final TunnelFabric x = new TunnelFabric();
    private final List<Call> made = new ArrayList<>();
    private final Map<String, Long> kept = new HashMap<>();

    private Script(Check check) {
        this.check = check;
    }

    /** Runs a script on a new object, as the test of a sentence. */
    static void run(Check check, String sentence, String script) {
        check.part(sentence);
        Script running = new Script(check);
        for (String line : script.split("[\n]|; ")) {
            if (!line.isBlank()) {
                running.step(line.strip());
            }
        }
    }

    /** A call by its name; a boolean among its arguments is written as 0 or 1. */
    private record Call(String name, int[] arguments) {
        long on(TunnelFabric object) {
            try {
                Method method = methodNamed(name);
                Class<?>[] types = method.getParameterTypes();
                Object[] values = new Object[types.length];
                for (int i = 0; i < types.length; i++) {
                    values[i] = types[i] == boolean.class ? (Object) (arguments[i] != 0) : (Object) arguments[i];
                }
                return ((Number) method.invoke(object, values)).longValue();
            } catch (IllegalAccessException | InvocationTargetException e) {
                throw new IllegalStateException(this + " ended with " + e.getCause(), e);
            }
        }

        @Override
        public String toString() {
            StringBuilder text = new StringBuilder(name).append('(');
            for (int i = 0; i < arguments.length; i++) {
                text.append(i == 0 ? "" : ", ").append(arguments[i]);
            }
            return text.append(')').toString();
        }
    }

    private static Method methodNamed(String name) {
        for (Method method : TunnelFabric.class.getMethods()) {
            if (method.getName().equals(name) && method.getDeclaringClass() == TunnelFabric.class) {
                return method;
            }
        }
        throw new IllegalArgumentException("no such call: " + name);
    }

    private void step(String line) {
        Matcher text = TEXT.matcher(line);
        if (text.matches()) {
            for (char letter : text.group(1).toCharArray()) {
                make(new Call("type", new int[] {letter}));
            }
            return;
        }
        Matcher call = CALL.matcher(line);
        if (!call.matches()) {
            throw new IllegalArgumentException("no line of a script: " + line);
        }
        int times = call.group(1) == null ? 1 : Integer.parseInt(call.group(1));
        for (int i = 0; i < times; i++) {
            step(new Call(call.group(2), arguments(call.group(3))), call.group(4), call.group(5));
        }
    }

    private void step(Call call, String sign, String answer) {
        if ("!".equals(sign)) {
            refused(call, number(answer));
        }
        long got = make(call);
        if ("=".equals(sign)) {
            check.due(kept.containsKey(answer) ? kept.get(answer) : number(answer), got, call.toString());
        } else if (">".equals(sign)) {
            kept.put(answer, got);
        }
    }

    private long make(Call call) {
        made.add(call);
        if (made.size() > MOST_CALLS) {
            throw new IllegalStateException("an object is used for at most 512 calls");
        }
        return call.on(x);
    }

    private static int[] arguments(String list) {
        if (list.isBlank()) {
            return NO_ARGUMENTS[0];
        }
        String[] parts = list.split(",");
        int[] numbers = new int[parts.length];
        for (int i = 0; i < parts.length; i++) {
            numbers[i] = number(parts[i].strip());
        }
        return numbers;
    }

    private static int number(String word) {
        switch (word) {
            case "MIN": return Integer.MIN_VALUE;
            case "MAX": return Integer.MAX_VALUE;
            case "true": return 1;
            case "false": return 0;
            default: break;
        }
        if (word.endsWith("f")) {
            return Float.floatToIntBits(Float.parseFloat(word));
        }
        return Character.isLetter(word.charAt(0)) ? constant(word) : Integer.parseInt(word);
    }

    private static int constant(String name) {
        try {
            return TunnelFabric.class.getField(name).getInt(null);
        } catch (ReflectiveOperationException e) {
            throw new IllegalArgumentException("no such constant: " + name, e);
        }
    }

    /** Makes all calls so far on two new objects, and this one on the first of them: they must answer alike then. */
    private void refused(Call call, int answer) {
        TunnelFabric asked = again();
        check.due(answer, call.on(asked), call.toString());
        List<Call> later = laterCalls();
        if (made.size() + 1 + later.size() > MOST_CALLS) {
            throw new IllegalStateException("an object is used for at most 512 calls");
        }
        TunnelFabric spared = again();
        for (Call next : later) {
            check.due(next.on(spared), next.on(asked), next + ", after " + call);
        }
    }

    private TunnelFabric again() {
        TunnelFabric object = new TunnelFabric();
        for (Call call : made) {
            call.on(object);
        }
        return object;
    }

    /** Calls that would show a change of anything that an object keeps: what it answers now, and what comes of it. */
    private static List<Call> laterCalls() {
        List<Call> calls = new ArrayList<>();
        add(calls, "digest", NO_ARGUMENTS);
        add(calls, "fault", NO_ARGUMENTS);
        for (int t = 0; t < 10; t++) {
            add(calls, "fairShare", new int[][] {{t, 0}, {t, 1}});
            add(calls, "gain", new int[][] {{t}});
            add(calls, "bottleneck", new int[][] {{t}});
        }
        add(calls, "bestPort", new int[][] {{1}, {3}});
        addTraffic(calls);
        // The text: it is built as it stands, which shows its bytes, and so do the routers that come of it.
        add(calls, "build", NO_ARGUMENTS);
        add(calls, "digest", NO_ARGUMENTS);
        for (int slot = 0; slot < 2; slot++) {
            add(calls, "restore", new int[][] {{slot}});
            add(calls, "digest", NO_ARGUMENTS);
            addTraffic(calls);
        }
        add(calls, "clearText", NO_ARGUMENTS);
        return calls;
    }

    private static void addTraffic(List<Call> calls) {
        for (int t = 0; t < 10; t++) {
            add(calls, "offer", new int[][] {{t, 0, 3}, {t, 1, 3}});
        }
        for (int i = 0; i < 3; i++) {
            add(calls, "tick", new int[][] {{1 + i}});
            add(calls, "digest", NO_ARGUMENTS);
        }
    }

    private static void add(List<Call> calls, String name, int[][] argumentRows) {
        for (int[] arguments : argumentRows) {
            calls.add(new Call(name, arguments));
        }
    }
}
