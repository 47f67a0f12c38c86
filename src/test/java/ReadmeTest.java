import java.io.IOException;
import java.lang.reflect.Field;
import java.lang.reflect.Method;
import java.lang.reflect.Modifier;
import java.nio.file.Files;
import java.nio.file.Path;
import java.util.ArrayList;
import java.util.Arrays;
import java.util.LinkedHashMap;
import java.util.List;
import java.util.Map;
import java.util.Random;
import java.util.Set;
import java.util.TreeMap;
import java.util.TreeSet;
import java.util.regex.Matcher;
import java.util.regex.Pattern;

/** What README.md says of the example, of each call's refusals and of the constants is so. */
public final class ReadmeTest {
    private static final Pattern EXAMPLE = Pattern.compile("wall\\.(\\w+)\\(([^)]*)\\);\\s*// (-?\\w+).*");
    private static final Pattern CALL = Pattern.compile("\\| `(\\w+)\\(([^)]*)\\)` \\|.*\\|([^|]*)\\|");
    private static final Pattern CONSTANT = Pattern.compile("\\| `([A-Z]+)` \\| (-?\\d+) \\|.*");
    private static final int RUNS = 600;
    private static final int MOST_CALLS = 512;

    private static final List<String> FAULTS = new ArrayList<>();

    public static void main(String[] args) throws IOException, ReflectiveOperationException {
        List<String> lines = Files.readAllLines(Path.of("README.md"));
        Map<String, Integer> constants = constantsOfTheClass();
        testConstants(lines, constants);
        testExample(lines, constants);
        testCalls(lines, constants);
        FAULTS.forEach(System.out::println);
        System.out.println(FAULTS.isEmpty() ? "ReadmeTest: as due" : "ReadmeTest: " + FAULTS.size() + " faults");
        if (!FAULTS.isEmpty()) {
            System.exit(1);
        }
    }

    private static void testConstants(List<String> lines, Map<String, Integer> constants) {
        Map<String, Integer> said = new TreeMap<>();
        for (Matcher row : matches(CONSTANT, lines)) {
            said.put(row.group(1), Integer.valueOf(row.group(2)));
        }
        same("the constants", said, constants);
    }

    private static void testExample(List<String> lines, Map<String, Integer> constants) throws ReflectiveOperationException {
        LockerWall wall = new LockerWall();
        List<Matcher> calls = matches(EXAMPLE, lines);
        if (calls.isEmpty()) {
            FAULTS.add("there is no example");
        }
        for (Matcher call : calls) {
            String said = call.group(3);
            long due = constants.containsKey(said) ? constants.get(said) : Long.parseLong(said);
            List<String> numbers = names(call.group(2));
            Object[] arguments = numbers.stream().map(Integer::valueOf).toArray();
            same("the example's " + call.group(), due, answer(wall, call.group(1), arguments));
        }
    }

    private static void testCalls(List<String> lines, Map<String, Integer> constants) throws ReflectiveOperationException {
        Map<String, List<String>> parameters = new LinkedHashMap<>();
        Map<String, Set<Long>> said = new TreeMap<>();
        for (Matcher row : matches(CALL, lines)) {
            parameters.put(row.group(1), names(row.group(2)));
            Set<Long> refusals = said.computeIfAbsent(row.group(1), name -> new TreeSet<>());
            for (String name : names(row.group(3))) {
                refusals.add((long) constants.getOrDefault(name, Integer.MIN_VALUE));
            }
        }
        same("the calls", said.keySet(), callsOfTheClass());
        if (FAULTS.isEmpty()) {
            same("the refusals", said, refusalsSeen(parameters));
        }
    }

    private static Map<String, Set<Long>> refusalsSeen(Map<String, List<String>> parameters) throws ReflectiveOperationException {
        Random random = new Random(8);
        List<String> calls = new ArrayList<>(parameters.keySet());
        Map<String, Set<Long>> seen = new TreeMap<>();
        calls.forEach(call -> seen.put(call, new TreeSet<>()));
        for (int run = 0; run < RUNS; run++) {
            LockerWall wall = new LockerWall();
            for (int n = 0; n < MOST_CALLS; n++) {
                String call = calls.get(random.nextInt(calls.size()));
                Object[] arguments = parameters.get(call).stream().map(name -> number(name, random)).toArray();
                long answer = answer(wall, call, arguments);
                if (answer < 0) {
                    seen.get(call).add(answer);
                }
            }
        }
        return seen;
    }

    // Few hooks and small rooms, so that lockers meet and fill; no code below 0, which told() would answer like a refusal.
    private static int number(String parameter, Random random) {
        switch (parameter) {
            case "i": case "j": return random.nextInt(5) - 1;
            case "room": return random.nextInt(20);
            case "code": return random.nextInt(2);
            case "w": return random.nextInt(12) - 1;
            case "what": return random.nextInt(11) - 1;
            default: return random.nextInt(6) - 1;
        }
    }

    private static long answer(LockerWall wall, String name, Object[] arguments) throws ReflectiveOperationException {
        Class<?>[] types = new Class<?>[arguments.length];
        Arrays.fill(types, int.class);
        return ((Number) LockerWall.class.getMethod(name, types).invoke(wall, arguments)).longValue();
    }

    private static Map<String, Integer> constantsOfTheClass() throws IllegalAccessException {
        Map<String, Integer> constants = new TreeMap<>();
        for (Field field : LockerWall.class.getFields()) {
            constants.put(field.getName(), field.getInt(null));
        }
        return constants;
    }

    private static Set<String> callsOfTheClass() {
        Set<String> calls = new TreeSet<>();
        for (Method method : LockerWall.class.getDeclaredMethods()) {
            if (Modifier.isPublic(method.getModifiers())) {
                calls.add(method.getName());
            }
        }
        return calls;
    }

    private static List<Matcher> matches(Pattern pattern, List<String> lines) {
        return lines.stream().map(pattern::matcher).filter(Matcher::matches).toList();
    }

    private static List<String> names(String list) {
        return list.isBlank() ? List.of() : List.of(list.trim().split(", "));
    }

    private static void same(String what, Object said, Object found) {
        if (!said.equals(found)) {
            FAULTS.add(what + ": README.md says " + said + ", the class has " + found);
        }
    }
}
