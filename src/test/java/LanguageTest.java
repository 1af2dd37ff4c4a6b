import java.io.IOException;
import java.lang.reflect.Constructor;
import java.lang.reflect.Field;
import java.lang.reflect.Method;
import java.lang.reflect.Modifier;
import java.nio.file.Files;
import java.nio.file.Path;
import java.util.Arrays;
import java.util.Set;
import java.util.TreeSet;
import java.util.regex.Matcher;
import java.util.regex.Pattern;

/** The document's face, and those rules of LANGUAGE.md that a program can look at. */
public final class LanguageTest {
    private static final Path SOURCE = Path.of("src/main/java/SpecimenHall.java");

    private static final String FACE = "int make 3; int caseOf 2; int putIn 3; int takeOut 2; "
            + "int placed 2; int told 2; boolean below 2; int steps 2; int common 2; "
            + "int commonTrait 3; boolean rule 3; boolean unrule 2; int asks 2; int nearest 3; "
            + "int lend 3; int giveBack 2; int overdue 1; int lateOne 2; int fees 2; "
            + "int question 5; int name 2; int asked 0; boolean convert 2; int find 3; "
            + "int nth 2; boolean shelf 3; boolean move 2; int count 1";

    private static final String[] RULED_OUT = {"throw", "throws", "try", "catch", "finally",
        "synchronized", "assert", "import", "package", "protected", "volatile", "var",
        "System", "Object", "hashCode", "->", "::", "@", "Exact", "Thread"};

    private static final Set<Class<?>> STATIC = Set.of(int.class, long.class, boolean.class,
            char.class, String.class, int[].class, long[].class, char[].class, byte[].class);

    private static final int MOST_LINES = 60;

    private static final Check check = new Check("LanguageTest");

    public static void main(String[] args) throws IOException {
        lookAtFace();
        for (Class<?> type : SpecimenHall.class.getDeclaredClasses()) {
            lookAtInside(type);
        }
        check.part("rule 11");
        check.yes("twelve classes at most", SpecimenHall.class.getDeclaredClasses().length < 12);
        String text = withoutComments(Files.readString(SOURCE));
        lookAtText(text);
        lookAtLengths(text);
        check.end();
    }

    private static void lookAtFace() {
        check.part("rule 1");
        Class<?> type = SpecimenHall.class;
        check.is("public and final", type.getModifiers(), Modifier.PUBLIC | Modifier.FINAL);
        Set<String> open = new TreeSet<>();
        for (Method method : type.getDeclaredMethods()) {
            if (!Modifier.isPrivate(method.getModifiers())) {
                check.is(method.getName(), method.getModifiers(), Modifier.PUBLIC);
                for (Class<?> parameter : method.getParameterTypes()) {
                    check.yes(method.getName(), parameter == int.class);
                }
                open.add(method.getReturnType() + " " + method.getName() + " "
                        + method.getParameterCount());
            }
        }
        check.yes("the face is " + open, open.equals(new TreeSet<>(Arrays.asList(FACE.split("; ")))));
        for (Constructor<?> constructor : type.getDeclaredConstructors()) {
            check.is("constructor", constructor.getModifiers(), Modifier.PUBLIC);
            check.is("its parameters", constructor.getParameterCount(), 0);
        }
        for (Field field : type.getDeclaredFields()) {
            boolean isNone = field.getName().equals("NONE");
            check.is(field.getName(), Modifier.isPrivate(field.getModifiers()), !isNone);
        }
        lookAtMembers(type);
    }

    private static void lookAtInside(Class<?> type) {
        check.part("rule 2");
        check.yes(type + " is static", Modifier.isStatic(type.getModifiers()));
        check.no(type + " is private or package-visible", Modifier.isPublic(type.getModifiers()));
        lookAtMembers(type);
        for (Method method : type.getDeclaredMethods()) {
            check.no(method + " bears a name of the face", FACE.contains(" " + method.getName() + " "));
        }
    }

    private static void lookAtMembers(Class<?> type) {
        check.part("rules 1, 5 and 11");
        int fields = 0;
        for (Field field : type.getDeclaredFields()) {
            if (Modifier.isStatic(field.getModifiers())) {
                check.yes(field + " is final", Modifier.isFinal(field.getModifiers()));
                check.yes(field + " may be static", STATIC.contains(field.getType()));
            } else {
                fields++;
            }
        }
        check.yes(type + " has twenty fields at most", fields <= 20);
        for (Method method : type.getDeclaredMethods()) {
            check.yes(method + " has seven parameters at most", method.getParameterCount() <= 7);
            check.no(method + " is private and bears a name of the face",
                    Modifier.isPrivate(method.getModifiers())
                            && FACE.contains(" " + method.getName() + " "));
        }
    }

    private static String withoutComments(String text) {
        return text.replaceAll("(?s)/\\*.*?\\*/", "").replaceAll("//[^\n]*", "");
    }

    private static void lookAtText(String text) {
        check.part("rules 4, 6 and 10");
        for (String word : RULED_OUT) {
            boolean isName = Character.isLetter(word.charAt(0));
            String pattern = isName ? "\\b" + word + "\\b" : Pattern.quote(word);
            check.no(word, Pattern.compile(pattern).matcher(text).find());
        }
        check.no("Exact", text.contains("Exact("));
        Matcher library = Pattern.compile("\\b(Math|Long|Integer|Arrays|String)\\.\\w+").matcher(text);
        while (library.find()) {
            check.yes(library.group(), Set.of("Math.max", "Math.min", "Long.bitCount")
                    .contains(library.group()));
        }
    }

    /** A method's last line is the first brace that stands as far in as its first line. */
    private static void lookAtLengths(String text) {
        check.part("rule 11");
        Matcher method = Pattern.compile("(?ms)^( {4}| {8})(?=\\S)[^\n;=]*\\([^;{]*\\{\n(.*?)^\\1\\}")
                .matcher(text);
        int methods = 0;
        while (method.find()) {
            methods++;
            check.yes(method.group().lines().findFirst().orElse("") + " is short",
                    method.group().lines().count() <= MOST_LINES);
        }
        check.yes(methods + " methods looked at", methods > 28);
    }
}
