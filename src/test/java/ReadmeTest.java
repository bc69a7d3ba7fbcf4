import java.io.IOException;
import java.lang.reflect.Method;
import java.lang.reflect.Modifier;
import java.nio.file.DirectoryStream;
import java.nio.file.Files;
import java.nio.file.Path;
import java.util.Set;
import java.util.TreeSet;
import java.util.regex.Matcher;
import java.util.regex.Pattern;

/** README.md: each call that it shows answers what it says, each call of the face is shown, each test is named. */
final class ReadmeTest {
    private static final Pattern CALL = Pattern.compile("arms\\.(\\w+)\\(([^)]*)\\); +// (-?[0-9]+): .+");
    private static final String NEW = "PointingArms arms = new PointingArms();";
    private static final int MOST_CALLS = 512;
    private static final Due due = new Due();

    public static void main(String[] args) throws IOException, ReflectiveOperationException {
        String readme = Files.readString(Path.of("README.md"));
        Set<String> shown = new TreeSet<>();
        Matcher block = Pattern.compile("(?s)```java\n(.*?)```").matcher(readme);
        while (block.find()) {
            run(block.group(1).split("\n"), shown);
        }
        for (Method method : PointingArms.class.getDeclaredMethods()) {
            if (Modifier.isPublic(method.getModifiers())) {
                due.is(method.getName() + " is shown", shown.contains(method.getName()) ? 1 : 0, 1);
            }
        }
        try (DirectoryStream<Path> tests = Files.newDirectoryStream(Path.of("src/test/java"), "*Test.java")) {
            for (Path test : tests) {
                String name = test.getFileName().toString().replace(".java", "");
                due.is(name + " is named", readme.contains("`" + name + "`") ? 1 : 0, 1);
            }
        }
        due.end();
    }

    /** A block begins with a new object; all its other lines are calls with their answers. */
    private static void run(String[] lines, Set<String> shown) throws ReflectiveOperationException {
        due.is("a block begins with a new object: " + lines[0], lines[0].equals(NEW) ? 1 : 0, 1);
        due.is("an object is good for so many calls", lines.length - 1 <= MOST_CALLS ? 1 : 0, 1);
        PointingArms arms = new PointingArms();
        for (int i = 1; i < lines.length; i++) {
            Matcher call = CALL.matcher(lines[i]);
            boolean isCall = call.matches();
            due.is("a call with its answer: " + lines[i], isCall ? 1 : 0, 1);
            if (isCall) {
                shown.add(call.group(1));
                due.is("README: " + lines[i], ask(arms, call.group(1), call.group(2)), Integer.parseInt(call.group(3)));
            }
        }
    }

    private static int ask(PointingArms arms, String name, String numbers) throws ReflectiveOperationException {
        String[] texts = numbers.isEmpty() ? new String[0] : numbers.split(", ");
        for (Method method : PointingArms.class.getDeclaredMethods()) {
            boolean isMeant = Modifier.isPublic(method.getModifiers()) && method.getName().equals(name);
            if (!isMeant || method.getParameterCount() != texts.length) {
                continue;
            }
            Object[] values = new Object[texts.length];
            for (int i = 0; i < values.length; i++) {
                boolean isLong = method.getParameterTypes()[i] == long.class;
                values[i] = isLong ? (Object) Long.decode(texts[i].replace("L", "")) : (Object) Integer.decode(texts[i]);
            }
            return (int) method.invoke(arms, values);
        }
        throw new NoSuchMethodException(name);
    }
}
