import java.io.IOException;
import java.lang.reflect.Method;
import java.nio.file.Files;
import java.nio.file.Path;
import java.util.Set;
import java.util.TreeSet;
import java.util.regex.Matcher;
import java.util.regex.Pattern;

/** The examples of README.md answer as it says, and it names every call; run from the project's root. */
public final class ReadmeTest {
    private static final Check CHECK = new Check("ReadmeTest");
    private static final Pattern MADE = Pattern.compile("LockedLetter letter = new LockedLetter\\(\\);.*");
    private static final Pattern CALL = Pattern.compile("letter\\.(\\w+)\\((.*)\\); +// (-?\\d+|true|false)?.*");

    public static void main(String[] args) throws IOException, ReflectiveOperationException {
        String page = Files.readString(Path.of("README.md"));
        LockedLetter letter = null;
        for (String block : page.split("```java\n")) {
            for (String line : block.contains("```") ? block.substring(0, block.indexOf("```")).split("\n") : new String[0]) {
                Matcher call = CALL.matcher(line);
                if (MADE.matcher(line).matches()) {
                    letter = new LockedLetter();
                } else if (call.matches()) {
                    compare(line, letter, call);
                } else {
                    CHECK.due("a line that can be run, not '" + line + "'", false, true);
                }
            }
        }
        namesOfCalls(page);
        CHECK.end();
    }

    private static void compare(String line, LockedLetter letter, Matcher call) throws ReflectiveOperationException {
        Method method = methodOf(call.group(1));
        String[] texts = call.group(2).isEmpty() ? new String[0] : call.group(2).split(", ");
        Object[] arguments = new Object[texts.length];
        for (int i = 0; i < texts.length; i++) {
            boolean truth = method.getParameterTypes()[i] == boolean.class;
            arguments[i] = truth ? (Object) Boolean.valueOf(texts[i]) : (Object) Integer.decode(texts[i]);
        }
        Object answer = method.invoke(letter, arguments);
        String due = call.group(3) == null ? "null" : call.group(3);
        CHECK.due(line + " answered " + answer + "; that", String.valueOf(answer).equals(due), true);
    }

    private static Method methodOf(String name) {
        for (Method method : LockedLetter.class.getDeclaredMethods()) {
            if (method.getName().equals(name)) {
                return method;
            }
        }
        throw new IllegalStateException("no call " + name);
    }

    private static void namesOfCalls(String page) {
        Set<String> names = new TreeSet<>();
        for (Method method : LockedLetter.class.getMethods()) {
            if (method.getDeclaringClass() == LockedLetter.class) {
                names.add(method.getName());
            }
        }
        CHECK.due("calls", names.size(), 33);
        for (String name : names) {
            boolean told = Pattern.compile("`" + name + "[`(]").matcher(page).find();
            CHECK.due(name + " is named outside the examples", told, true);
        }
    }
}
