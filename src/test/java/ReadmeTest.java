import java.io.IOException;
import java.lang.reflect.Method;
import java.lang.reflect.Modifier;
import java.nio.file.Files;
import java.nio.file.Path;
import java.util.HashMap;
import java.util.Map;
import java.util.regex.Matcher;
import java.util.regex.Pattern;

/** What README.md says of the calls is so; run from the project's folder. */
public final class ReadmeTest {
    private static final Pattern EXAMPLE = Pattern.compile("(?s)```java\n(.*?)```");
    private static final String CONSTRUCTOR = "ProgramFacts facts = new ProgramFacts();";
    private static final Pattern CALL = Pattern.compile(
        "(?:int (\\w+) = )?facts\\.(\\w+)\\(([^)]*)\\); +// (true|false|-?\\d+)(:.*)?");
    private static final Due DUE = new Due("ReadmeTest");

    private final ProgramFacts facts = new ProgramFacts();
    private final Map<String, Integer> names = new HashMap<>();

    public static void main(String[] args) throws IOException, ReflectiveOperationException {
        String readme = Files.readString(Path.of("README.md"));
        Matcher example = EXAMPLE.matcher(readme);
        boolean there = example.find();
        DUE.is("README.md has an example", there, true);
        String code = there ? example.group(1) : "";
        new ReadmeTest().follow(code);
        everyCallIsTold(readme, code);
        DUE.end();
    }

    private void follow(String code) throws ReflectiveOperationException {
        for (String line : code.split("\n")) {
            Matcher call = CALL.matcher(line);
            if (call.matches()) {
                long got = answer(call.group(2), call.group(3));
                DUE.is(line, got, number(call.group(4)));
                if (call.group(1) != null) {
                    names.put(call.group(1), (int) got);
                }
            } else {
                DUE.is("can be read: " + line, line.isEmpty() || line.equals(CONSTRUCTOR), true);
            }
        }
    }

    private long answer(String name, String list) throws ReflectiveOperationException {
        Method method = methodOf(name);
        String[] words = list.isEmpty() ? new String[0] : list.split(", ");
        Object[] arguments = new Object[words.length];
        for (int k = 0; k < words.length; k++) {
            boolean flag = method.getParameterTypes()[k] == boolean.class;
            arguments[k] = flag ? (Object) Boolean.valueOf(words[k]) : (Object) value(words[k]);
        }
        return number(String.valueOf(method.invoke(facts, arguments)));
    }

    private int value(String word) {
        return names.containsKey(word) ? names.get(word) : Integer.parseInt(word);
    }

    private static Method methodOf(String name) throws NoSuchMethodException {
        for (Method method : ProgramFacts.class.getDeclaredMethods()) {
            if (method.getName().equals(name)) {
                return method;
            }
        }
        throw new NoSuchMethodException(name);
    }

    private static long number(String answer) {
        return answer.equals("true") ? 1 : answer.equals("false") ? 0 : Long.parseLong(answer);
    }

    private static void everyCallIsTold(String readme, String code) {
        for (Method method : ProgramFacts.class.getDeclaredMethods()) {
            if (Modifier.isPublic(method.getModifiers())) {
                String name = method.getName();
                DUE.is("the table tells " + name, readme.contains("| `" + name + "("), true);
                DUE.is("the example has " + name, code.contains("facts." + name + "("), true);
            }
        }
    }
}
