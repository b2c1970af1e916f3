import java.io.IOException;
import java.lang.reflect.Field;
import java.lang.reflect.Method;
import java.lang.reflect.Modifier;
import java.nio.file.Files;
import java.nio.file.Path;
import java.util.List;
import java.util.Set;
import java.util.TreeSet;
import java.util.regex.Matcher;
import java.util.regex.Pattern;

/** What a machine can see of LANGUAGE.md's rules, and the face as DOC.md tells it. */
public final class RulesTest {
    private static final Kit KIT = new Kit("RulesTest");
    private static final String[] FORBIDDEN = {
        "->", "::", "\\bfinally\\b", "\\bsynchronized\\b", "\\bassert\\b", "\\bvar\\b", "getMessage", "Exact\\(",
        "\\bSystem\\.(?!arraycopy)", "\\bcatch\\b", "\\btry\\b", "\\bThread\\b", "\\bObject\\b", "\\bhashCode\\b",
        "\\bequals\\b", "\\btoString\\b", "\\bdouble\\b", "\\bfloat\\b", "\\bprotected\\b", "\\bvolatile\\b",
        "\"\\s*\\+", "\\+\\s*\"", "\\brecord\\b", "\\binstanceof\\b", "\\bMath\\.(?!max|min)", "[^\\x00-\\x7F]"};

    private static final Set<String> LISTED = Set.of("Integer.bitCount(", "Math.max(", "Math.min(", "System.arraycopy(");

    private RulesTest() {
    }

    public static void main(String[] args) throws IOException {
        String source = Files.readString(Path.of("src/main/java/UnderFloor.java"));
        String code = source.replaceAll("(?s)/\\*.*?\\*/", "").replaceAll("//.*", "");
        for (String pattern : FORBIDDEN) {
            KIT.due("rows with " + pattern, Pattern.compile(pattern).matcher(code).results().count(), 0);
        }
        KIT.due("imports", Pattern.compile("(?m)^import ").matcher(code).results().count(), 1);
        library(code);
        face(Files.readString(Path.of("../shared/DOC.md")));
        classes();
        methods(code);
        KIT.close();
    }

    /** Of the library's classes nothing is asked but functions that rule 4 lists: no field of theirs either. */
    private static void library(String code) {
        String classes = "Integer|Long|Math|System|Arrays|String|Character|List";
        Matcher use = Pattern.compile("\\b(" + classes + ")\\s*\\.\\s*\\w+\\(?").matcher(code);
        while (use.find()) {
            KIT.due(use.group() + " is listed", LISTED.contains(use.group()), true);
        }
    }

    private static void face(String doc) {
        Matcher row = Pattern.compile("(?m)^    public (?!static)(\\w+) (\\w+)\\((.*?)\\)( throws \\w+)?;$").matcher(doc);
        TreeSet<String> want = new TreeSet<>();
        while (row.find()) {
            String types = row.group(3).replaceAll(" \\w+(, )?", ",");
            want.add(row.group(1) + " " + row.group(2) + "(" + types + ")");
        }
        TreeSet<String> got = new TreeSet<>();
        for (Method method : UnderFloor.class.getDeclaredMethods()) {
            if (Modifier.isPublic(method.getModifiers())) {
                StringBuilder types = new StringBuilder();
                for (Class<?> type : method.getParameterTypes()) {
                    types.append(type).append(',');
                }
                got.add(method.getReturnType() + " " + method.getName() + "(" + types + ")");
            } else {
                KIT.due(method + " is private", Modifier.isPrivate(method.getModifiers()), true);
            }
        }
        KIT.due("methods of the face " + got, got.equals(want), true);
        KIT.due("how many methods", got.size(), 38);
        KIT.due("public constructors", UnderFloor.class.getConstructors().length, 1);
        KIT.due("constructors", UnderFloor.class.getDeclaredConstructors().length, 1);
        KIT.due("public constants", UnderFloor.class.getFields().length, 2);
        KIT.due("final", Modifier.isFinal(UnderFloor.class.getModifiers()), true);
    }

    private static void classes() {
        TreeSet<String> face = new TreeSet<>();
        for (Method method : UnderFloor.class.getDeclaredMethods()) {
            if (Modifier.isPublic(method.getModifiers())) {
                face.add(method.getName());
            }
        }
        Class<?>[] inner = UnderFloor.class.getDeclaredClasses();
        KIT.due("few classes", inner.length < 12, true);
        fields(UnderFloor.class);
        for (Class<?> each : inner) {
            KIT.due(each + " is static", Modifier.isStatic(each.getModifiers()), true);
            KIT.due(each + " is not public", Modifier.isPublic(each.getModifiers()), false);
            fields(each);
            for (Method method : each.getDeclaredMethods()) {
                KIT.due(method + " bears a name of the face", face.contains(method.getName()), false);
            }
        }
        for (Method method : UnderFloor.class.getDeclaredMethods()) {
            boolean hides = Modifier.isPrivate(method.getModifiers()) && face.contains(method.getName());
            KIT.due(method + " bears a name of the face", hides, false);
        }
    }

    private static void fields(Class<?> owner) {
        int own = 0;
        for (Field field : owner.getDeclaredFields()) {
            if (Modifier.isStatic(field.getModifiers())) {
                KIT.due(field + " is final", Modifier.isFinal(field.getModifiers()), true);
            } else {
                own++;
                KIT.due(field + " is private", Modifier.isPrivate(field.getModifiers()), true);
            }
        }
        KIT.due("few fields of " + owner, own <= 20, true);
    }

    private static void methods(String code) {
        List<String> rows = code.lines().toList();
        Pattern head = Pattern.compile("^( {4}| {8})(?! )(?!.*\\bclass\\b)[^=;]*\\(([^)]*)\\)[^;=]*\\{$");
        for (int i = 0; i < rows.size(); i++) {
            Matcher method = head.matcher(rows.get(i));
            if (!method.matches()) {
                continue;
            }
            int end = i;
            while (end < rows.size() && !rows.get(end).equals(method.group(1) + "}")) {
                end++;
            }
            KIT.due("short: " + rows.get(i).trim(), end - i <= 60, true);
            KIT.due("few parameters: " + rows.get(i).trim(), method.group(2).split(",").length <= 7, true);
        }
    }
}
