import java.lang.reflect.Method;
import java.util.Arrays;
import java.util.Random;

/**
 * Runs of up to 512 calls by a fixed seed, each call made to SpecimenHall and to PlainHall:
 * both must answer alike. Codes are all compared with one another first.
 */
public final class ModelTest {
    private static final int RUNS = 1500;
    private static final int CALLS = 512;
    private static final int METHODS = 28;
    private static final int[] ODD = {-1, -2, 0, 1, 5, 9, 10, 11, 12, 13, 19, 20, 21, 23, 24, 39,
        40, 48, 49, 59, 60, 61, 62, 63, 64, 99, 100, 123, 124, 139, 140, 148, 149, 199, 200, 201,
        239, 240, 299, 300, 365, 366, 999, 1000, 1001, 1039, 1040, 99999, 100000, 100001,
        1000000, 1000001, Integer.MAX_VALUE, Integer.MIN_VALUE};

    // Which calls a run makes often: a run that makes all alike reaches no limit.
    private static final String[] TASTES = {"", "make", "make caseOf putIn", "rule asks nearest",
        "rule lend giveBack", "make lend fees lateOne", "question name", "shelf move convert",
        "putIn takeOut move convert", "rule unrule asks", "caseOf lend putIn make giveBack"};

    private static final String[] NAMES = {"make", "caseOf", "putIn", "takeOut", "placed",
        "told", "below", "steps", "common", "commonTrait", "rule", "unrule", "asks", "nearest",
        "lend", "giveBack", "overdue", "lateOne", "fees", "question", "name", "asked",
        "convert", "find", "nth", "shelf", "move", "count"};

    private static final Check check = new Check("ModelTest");

    private final Random random;
    private final SpecimenHall hall = new SpecimenHall();
    private final PlainHall plain = new PlainHall();
    private final int[] a = new int[5];
    private final int days;
    private final int kindsOnly;
    private int made = 0;
    private int boxes = 0;

    private ModelTest(long seed) {
        random = new Random(seed);
        days = random.nextBoolean() ? 200 : 1000;
        kindsOnly = random.nextInt(3);
    }

    public static void main(String[] args) throws ReflectiveOperationException {
        compareCodes();
        for (int run = 0; run < RUNS && !check.failed(); run++) {
            check.part("run " + run);
            new ModelTest(run).go(TASTES[run % TASTES.length]);
        }
        check.end();
    }

    private static void compareCodes() {
        check.part("codes");
        PlainHall plain = new PlainHall();
        for (int a = -2; a < 152; a++) {
            for (int b = -2; b < 152; b++) {
                SpecimenHall hall = new SpecimenHall();
                String of = "(" + a + ", " + b + ")";
                check.is("below" + of, hall.below(a, b), plain.below(a, b));
                check.is("steps" + of, hall.steps(a, b), plain.steps(a, b));
                check.is("common" + of, hall.common(a, b), plain.common(a, b));
                for (int k = -1; k < 5; k++) {
                    check.is("commonTrait" + of, hall.commonTrait(a, b, k),
                            plain.commonTrait(a, b, k));
                }
            }
        }
    }

    private void go(String taste) throws ReflectiveOperationException {
        for (int call = 0; call < CALLS && !check.failed(); call++) {
            int method = random.nextInt(METHODS);
            if (!taste.isEmpty() && random.nextInt(4) > 0) {
                String[] liked = taste.split(" ");
                method = Arrays.asList(NAMES).indexOf(liked[random.nextInt(liked.length)]);
            }
            choose(method);
            if (random.nextInt(25) == 0) {
                a[random.nextInt(5)] = ODD[random.nextInt(ODD.length)];
            }
            String told = "call " + call + ", " + NAMES[method] + Arrays.toString(a);
            check.is(told, answer(hall, method), answer(plain, method));
            made = plain.count(0);
            boxes = plain.count(1);
        }
    }

    private int upTo(int most) {
        return random.nextInt(most + 1);
    }

    private int kind() {
        return upTo(23);
    }

    private int either() {
        return random.nextInt(2) == 0 ? kind() : 40 + upTo(8);
    }

    private int specimen() {
        return random.nextInt(3) == 0 ? Math.max(0, made - 1 - upTo(3)) : upTo(made);
    }

    private int length() {
        return random.nextInt(8) == 0 ? upTo(100000) : upTo(30);
    }

    private int told(int near) {
        int of = upTo(7);
        return of == 0 ? -1 : of < 4 ? either() : 200 + upTo(10) + near;
    }

    private void set(int... args) {
        for (int i = 0; i < 5; i++) {
            a[i] = i < args.length ? args[i] : 0;
        }
    }

    private void choose(int method) {
        switch (NAMES[method]) {
            case "make": set(kindsOnly == 0 ? kind() : 11 + upTo(8), length(), length()); break;
            case "caseOf": set(kind() % 21 / (1 + upTo(3)), 1 + upTo(20)); break;
            case "putIn": set(upTo(boxes), upTo(upTo(20)), specimen()); break;
            case "takeOut":
            case "placed": set(upTo(boxes), upTo(upTo(20))); break;
            case "told": set(specimen(), upTo(10)); break;
            case "below": set(either() + 100 * upTo(1), either() + 100 * upTo(1)); break;
            case "steps":
            case "unrule": set(either(), upTo(4)); break;
            case "common": set(kind(), kind()); break;
            case "commonTrait": set(kind(), kind(), upTo(3)); break;
            case "rule": rule(); break;
            case "asks": set(specimen(), upTo(4)); break;
            case "nearest": set(specimen(), upTo(4), upTo(upTo(2))); break;
            case "lend": set(thing(), upTo(kindsOnly == 2 ? 1 : 20), upTo(days)); break;
            case "giveBack": set(specimen(), upTo(2 * days)); break;
            case "overdue": set(upTo(3 * days)); break;
            case "lateOne": set(upTo(3 * days), upTo(upTo(15))); break;
            case "fees": set(upTo(kindsOnly == 2 ? 1 : 20), upTo(3 * days)); break;
            case "question": question(); break;
            case "name": set(upTo(upTo(9)), specimen()); break;
            case "convert": set(specimen(), kind()); break;
            case "find": set(either(), length(), length()); break;
            case "nth": set(either(), upTo(upTo(made))); break;
            case "shelf": set(upTo(10), kind() / (1 + upTo(3)), upTo(200)); break;
            case "move": set(specimen(), upTo(11) - 1); break;
            case "count": set(upTo(8)); break;
            default: set(); break;
        }
    }

    private int thing() {
        return random.nextInt(4) == 0 ? 1000 + upTo(boxes) : specimen();
    }

    private void rule() {
        int field = random.nextInt(3) == 0 ? upTo(4) : 2 + upTo(1);
        int[] most = {9, 99, 365, 1000, 9};
        int value = random.nextInt(3) == 0 ? upTo(most[field] + 1) : upTo(4);
        set(random.nextInt(3) == 0 ? kind() : 40 + upTo(8), field, value);
    }

    private void question() {
        int key = upTo(upTo(upTo(10)));
        int of = upTo(2);
        int near = upTo(30);
        if (of == 0) {
            set(key, 60 + upTo(1), length(), told(near), told(near));
        } else {
            set(key, either(), 0, told(near), told(near));
        }
    }

    private static Method named(Class<?> type, String name) {
        for (Method method : type.getDeclaredMethods()) {
            if (method.getName().equals(name)) {
                return method;
            }
        }
        throw new IllegalStateException(name);
    }

    private int answer(Object from, int method) throws ReflectiveOperationException {
        Method call = named(from.getClass(), NAMES[method]);
        Object[] args = new Object[call.getParameterCount()];
        for (int i = 0; i < args.length; i++) {
            args[i] = a[i];
        }
        Object got = call.invoke(from, args);
        return got instanceof Boolean b ? (b ? 1 : 0) : (Integer) got;
    }
}
