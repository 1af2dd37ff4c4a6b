import java.io.IOException;
import java.lang.reflect.Method;
import java.lang.reflect.Modifier;
import java.nio.file.Files;
import java.nio.file.Path;
import java.util.HashMap;
import java.util.Map;
import java.util.Set;
import java.util.TreeSet;
import java.util.regex.Matcher;
import java.util.regex.Pattern;

/** Makes the calls that README.md shows, line by line, and holds each against what it says. */
public final class ReadmeTest {
    private static final Pattern CALL = Pattern.compile(
            "(?:int (\\w+) = )?hall\\.(\\w+)\\(([^)]*)\\);\\s*// (-?\\d+|true|false|NONE)(?::.*)?");

    private static final Check check = new Check("ReadmeTest");

    private final SpecimenHall hall = new SpecimenHall();
    private final Map<String, Integer> known = new HashMap<>();
    private final Set<String> shown = new TreeSet<>();

    public static void main(String[] args) throws IOException, ReflectiveOperationException {
        ReadmeTest test = new ReadmeTest();
        for (String line : Files.readAllLines(Path.of("README.md"))) {
            if (line.contains("hall.")) {
                test.look(line);
            }
        }
        test.lookForAllCalls();
        check.end();
    }

    private void look(String line) throws ReflectiveOperationException {
        check.part(line);
        Matcher call = CALL.matcher(line);
        check.yes("a call with its answer", call.matches());
        if (!call.matches()) {
            return;
        }
        int got = answer(call.group(2), call.group(3));
        check.is("the call", got, number(call.group(4)));
        shown.add(call.group(2));
        if (call.group(1) != null) {
            known.put(call.group(1), got);
        }
    }

    private void lookForAllCalls() {
        check.part("all calls");
        for (Method method : SpecimenHall.class.getDeclaredMethods()) {
            if (Modifier.isPublic(method.getModifiers())) {
                check.yes(method.getName() + " is shown", shown.contains(method.getName()));
            }
        }
    }

    private int answer(String name, String list) throws ReflectiveOperationException {
        String[] words = list.isEmpty() ? new String[0] : list.split(", ");
        Object[] args = new Object[words.length];
        Class<?>[] types = new Class<?>[words.length];
        for (int i = 0; i < words.length; i++) {
            args[i] = sum(words[i]);
            types[i] = int.class;
        }
        Object got = SpecimenHall.class.getMethod(name, types).invoke(hall, args);
        return got instanceof Boolean b ? (b ? 1 : 0) : (Integer) got;
    }

    private int sum(String words) {
        int sum = 0;
        for (String word : words.split(" \\+ ")) {
            sum += known.containsKey(word) ? known.get(word) : number(word);
        }
        return sum;
    }

    private static int number(String word) {
        switch (word) {
            case "true": return 1;
            case "false": return 0;
            case "NONE": return SpecimenHall.NONE;
            default: return Integer.parseInt(word);
        }
    }
}
