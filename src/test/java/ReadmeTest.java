import java.lang.reflect.InvocationTargetException;
import java.lang.reflect.Method;
import java.lang.reflect.Modifier;
import java.nio.file.Files;
import java.nio.file.Path;
import java.util.ArrayList;
import java.util.HashMap;
import java.util.List;
import java.util.Map;
import java.util.regex.Matcher;
import java.util.regex.Pattern;

/** README.md is run: each answer that it shows is due, its helper is the tests' own, and no call is left out. */
public final class ReadmeTest {
    private static final Kit KIT = new Kit("ReadmeTest");
    private static final Pattern BLOCK = Pattern.compile("(?s)```java\n(.*?)```");
    private static final Pattern FED = Pattern.compile("feed\\(x, \"([^\"]*)\"\\);");
    private static final Pattern CALL = Pattern.compile("x\\.(\\w+)\\(([^)]*)\\); +// (true|false|-?\\d+)\\b.*");
    private static final Map<String, Method> FACE = new HashMap<>();

    public static void main(String[] args) throws Exception {
        for (Method method : IceParliament.class.getDeclaredMethods()) {
            if (Modifier.isPublic(method.getModifiers())) {
                FACE.put(method.getName(), method);
            }
        }
        String readme = Files.readString(Path.of(System.getProperty("readme", "README.md")));
        List<String> blocks = new ArrayList<>();
        Matcher found = BLOCK.matcher(readme);
        while (found.find()) {
            blocks.add(found.group(1));
        }
        KIT.due("blocks of Java", blocks.size(), 4);
        helper(blocks.get(0));
        for (String block : blocks.subList(1, blocks.size())) {
            example(block);
        }
        for (String name : FACE.keySet()) {
            KIT.due("the table tells " + name, Pattern.compile("(?m)^\\|.*`" + name + "\\(.*\\|$").matcher(readme).find(), true);
        }
        tests(readme);
        KIT.finish();
    }

    private static void helper(String block) throws Exception {
        String kit = Files.readString(Path.of(System.getProperty("tests", "src/test/java"), "Kit.java"));
        for (String line : block.split("\n")) {
            KIT.due("Kit has: " + line, kit.contains(line + "\n"), true);
        }
    }

    private static void example(String block) throws Exception {
        IceParliament x = null;
        for (String line : block.split("\n")) {
            Matcher fed = FED.matcher(line);
            Matcher call = CALL.matcher(line);
            if (line.equals("IceParliament x = new IceParliament();")) {
                x = new IceParliament();
            } else if (fed.matches()) {
                Kit.feed(x, fed.group(1));
            } else if (call.matches()) {
                KIT.due(line, answer(x, call.group(1), call.group(2)).equals(call.group(3)), true);
            } else {
                KIT.due("a line that can't be run: " + line, false, true);
            }
        }
    }

    private static String answer(IceParliament x, String name, String given) throws Exception {
        Method method = FACE.get(name);
        String[] texts = given.isEmpty() ? new String[0] : given.split(", ");
        if (method == null || method.getParameterCount() != texts.length) {
            return "no such call";
        }
        Object[] values = new Object[texts.length];
        for (int i = 0; i < texts.length; i++) {
            values[i] = texts[i].matches("true|false") ? (Object) Boolean.valueOf(texts[i]) : Integer.valueOf(texts[i]);
        }
        try {
            return String.valueOf(method.invoke(x, values));
        } catch (InvocationTargetException e) {
            return String.valueOf(e.getCause());
        }
    }

    /** Each test stands in the list of tests, and no other one does. */
    private static void tests(String readme) throws Exception {
        Path folder = Path.of(System.getProperty("tests", "src/test/java"));
        Matcher named = Pattern.compile("`(\\w+Test)`").matcher(readme);
        while (named.find()) {
            KIT.due("there is " + named.group(1), Files.exists(folder.resolve(named.group(1) + ".java")), true);
        }
        try (java.util.stream.Stream<Path> files = Files.list(folder)) {
            for (Path file : (Iterable<Path>) files::iterator) {
                String name = file.getFileName().toString().replace(".java", "");
                KIT.due("README tells " + name, !name.endsWith("Test") || readme.contains("`" + name + "`"), true);
            }
        }
    }
}
