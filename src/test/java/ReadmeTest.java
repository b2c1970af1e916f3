import java.io.IOException;
import java.lang.reflect.InvocationTargetException;
import java.lang.reflect.Method;
import java.lang.reflect.Modifier;
import java.nio.file.DirectoryStream;
import java.nio.file.Files;
import java.nio.file.Path;
import java.util.Set;
import java.util.TreeSet;
import java.util.regex.Matcher;
import java.util.regex.Pattern;

/** The run of calls that README.md shows is made, and it leaves out no call of the face and no test. */
public final class ReadmeTest {
    private static final Kit KIT = new Kit("ReadmeTest");
    private static final Pattern CALL = Pattern.compile("floor\\.(\\w+)\\((.*)\\); *// (throws )?([\\w-]+)(?:: (.*))?");

    private final UnderFloor floor = new UnderFloor();
    private final Set<String> called = new TreeSet<>();
    private int calls;

    private ReadmeTest() {
    }

    public static void main(String[] args) throws IOException, IllegalAccessException {
        String page = Files.readString(Path.of("README.md"));
        new ReadmeTest().run(page);
        tests(page);
        KIT.close();
    }

    private void run(String page) throws IllegalAccessException {
        Matcher blocks = Pattern.compile("(?s)```java\n(.*?)```").matcher(page);
        int made = 0;
        while (blocks.find()) {
            for (String row : blocks.group(1).split("\n")) {
                if (row.equals("UnderFloor floor = new UnderFloor();")) {
                    made++;
                } else {
                    call(row);
                }
            }
        }
        KIT.due("objects made", made, 1);
        KIT.due("no more calls than are promised", calls <= 512, true);
        for (Method method : UnderFloor.class.getDeclaredMethods()) {
            if (Modifier.isPublic(method.getModifiers())) {
                KIT.due(method.getName() + " is called", called.contains(method.getName()), true);
            }
        }
    }

    private void call(String row) throws IllegalAccessException {
        Matcher call = CALL.matcher(row);
        KIT.due("a call and its answer: " + row, call.matches(), true);
        if (!call.matches()) {
            return;
        }
        calls++;
        called.add(call.group(1));
        String[] told = call.group(2).isEmpty() ? new String[0] : call.group(2).split(", ");
        Object[] numbers = new Object[told.length];
        for (int i = 0; i < told.length; i++) {
            numbers[i] = number(told[i]);
        }
        KIT.due(row, answer(call.group(1), numbers).equals(due(call.group(4))), true);
        if (call.group(1).equals("feed")) {
            KIT.due("the text of " + row, ("\"" + text(numbers) + "\"").equals(call.group(5)), true);
        }
    }

    private static int number(String told) {
        if (told.startsWith("UnderFloor.")) {
            return told.equals("UnderFloor.NONE") ? UnderFloor.NONE : UnderFloor.HIDDEN;
        }
        return Integer.decode(told);
    }

    private static String due(String told) {
        return told.equals("NONE") ? "" + UnderFloor.NONE : told.equals("HIDDEN") ? "" + UnderFloor.HIDDEN : told;
    }

    /** What a call answers, or which exception it throws. */
    private String answer(String name, Object[] numbers) throws IllegalAccessException {
        for (Method method : UnderFloor.class.getDeclaredMethods()) {
            if (method.getName().equals(name) && method.getParameterCount() == numbers.length) {
                try {
                    return method.invoke(floor, numbers).toString();
                } catch (InvocationTargetException thrown) {
                    return thrown.getCause().getClass().getSimpleName();
                }
            }
        }
        return "there is no such call";
    }

    private static String text(Object[] numbers) {
        StringBuilder text = new StringBuilder();
        for (Object number : numbers) {
            for (int shift = 24; shift >= 0; shift -= 8) {
                int sign = (Integer) number >>> shift & 255;
                text.append(sign == 0 ? "" : "" + (char) sign);
            }
        }
        return text.toString();
    }

    private static void tests(String page) throws IOException {
        Set<String> there = new TreeSet<>();
        try (DirectoryStream<Path> files = Files.newDirectoryStream(Path.of("src/test/java"), "*Test.java")) {
            for (Path file : files) {
                there.add(file.getFileName().toString().replace(".java", ""));
            }
        }
        Set<String> named = new TreeSet<>();
        Matcher names = Pattern.compile("(?m)^- `(\\w+Test)`:").matcher(page);
        while (names.find()) {
            named.add(names.group(1));
        }
        KIT.due("tests named " + named + ", tests there " + there, named.equals(there), true);
    }
}
