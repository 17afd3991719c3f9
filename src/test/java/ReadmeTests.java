import java.lang.reflect.InvocationTargetException;
import java.lang.reflect.Method;
import java.lang.reflect.Modifier;
import java.nio.file.Files;
import java.nio.file.Path;
import java.util.ArrayList;
import java.util.List;
import java.util.regex.Matcher;
import java.util.regex.Pattern;

/** What README.md says of the calls holds: its examples are done, line by line, on one object. */
public final class ReadmeTests {
    private static final Pattern TELLS = Pattern.compile("tell\\(x, \"([^\"]*)\"\\);");
    private static final Pattern CALLS = Pattern.compile("x\\.(\\w+)\\(([^)]*)\\);\\s*// (true|false|-?\\d+)(:.*)?");

    private static final Pattern TEXTS = Pattern.compile("\\| (`\\w+`(?:, `\\w+`)*) \\| .* \\| `([^`]+)` \\|");

    private static int done = 0;
    private static int wrong = 0;

    public static void main(String[] args) throws Exception {
        String readme = Files.readString(Path.of("README.md"));
        namesEachCall(readme);
        showsTheHelper(readme);
        showsTextsThatCanBeRead(readme);
        LostByState x = new LostByState();
        for (String line : examples(readme)) {
            follow(x, line);
        }
        due("calls in the examples", done >= 20);
        System.out.println(done + " calls of README.md, " + wrong + " wrong");
        if (wrong != 0) {
            System.exit(1);
        }
    }

    private static void due(String what, boolean holds) {
        if (!holds) {
            wrong++;
            System.out.println("README.md, not so: " + what);
        }
    }

    private static void namesEachCall(String readme) {
        for (Method m : LostByState.class.getDeclaredMethods()) {
            if (Modifier.isPublic(m.getModifiers())) {
                Matcher named = Pattern.compile("`" + m.getName() + "\\(([^)]*)\\)`").matcher(readme);
                boolean found = named.find();
                due(m.getName() + " is named", found);
                int many = found && !named.group(1).isEmpty() ? named.group(1).split(", ").length : 0;
                due(m.getName() + " has its arguments", many == m.getParameterCount());
            }
        }
    }

    /** The helper of the page is the one that is used here. */
    private static void showsTheHelper(String readme) throws Exception {
        String source = Files.readString(Path.of("src/test/java/ReadmeTests.java"));
        int from = source.lastIndexOf("    static void tell(");
        int to = from < 0 ? -1 : source.indexOf("\n    }\n", from);
        due("the helper stands in the test", to > 0);
        if (to > 0) {
            String helper = (source.substring(from, to) + "\n    }").replaceAll("(?m)^ {4}", "");
            due("the helper is as in the test", readme.contains(helper));
        }
    }

    /** Each text of the table, read by each call that is named ahead of it. */
    private static void showsTextsThatCanBeRead(String readme) throws Exception {
        Matcher texts = TEXTS.matcher(readme);
        int found = 0;
        while (texts.find()) {
            for (String name : texts.group(1).replace("`", "").split(", ")) {
                LostByState x = new LostByState();
                if (!name.equals("things")) {
                    tell(x, "5abc;3ab;9d;1");
                    x.things();
                }
                tell(x, texts.group(2));
                String answer = answer(x, name, name.equals("looks") ? "2" : "");
                due(name + "() of " + texts.group(2) + " (answered " + answer + ")", answer.matches("\\d+"));
                found++;
            }
        }
        due("a text for each call that reads one, not " + found, found == 8);
    }

    private static List<String> examples(String readme) {
        List<String> lines = new ArrayList<>();
        boolean inside = false;
        for (String line : readme.split("\n")) {
            if (line.startsWith("```")) {
                inside = line.equals("```java");
            } else if (inside && (line.startsWith("x.") || line.startsWith("tell("))) {
                lines.add(line);
            }
        }
        return lines;
    }

    private static void follow(LostByState x, String line) throws Exception {
        Matcher tells = TELLS.matcher(line);
        Matcher calls = CALLS.matcher(line);
        if (tells.matches()) {
            tell(x, tells.group(1));
        } else if (calls.matches()) {
            done++;
            String answer = answer(x, calls.group(1), calls.group(2));
            due(line + " (answered " + answer + ")", answer.equals(calls.group(3)));
        } else {
            due(line + " (can't be read)", false);
        }
    }

    private static String answer(LostByState x, String name, String told) throws Exception {
        String[] parts = told.isEmpty() ? new String[0] : told.split(", ");
        Class<?>[] types = new Class<?>[parts.length];
        Object[] numbers = new Object[parts.length];
        for (int i = 0; i < parts.length; i++) {
            types[i] = int.class;
            numbers[i] = Integer.parseInt(parts[i]);
        }
        try {
            return String.valueOf(LostByState.class.getMethod(name, types).invoke(x, numbers));
        } catch (NoSuchMethodException | InvocationTargetException e) {
            return e.toString();
        }
    }

    static void tell(LostByState x, String text) {
        x.end(0);
        for (int from = 0; from < text.length(); from += 4) {
            int four = 0;
            for (int i = from; i < from + 4; i++) {
                four = four << 8 | (i < text.length() ? text.charAt(i) : 0);
            }
            x.sign(four);
        }
        x.end(text.length());
    }
}
