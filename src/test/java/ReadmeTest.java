import java.io.IOException;
import java.lang.reflect.Method;
import java.lang.reflect.Modifier;
import java.nio.file.DirectoryStream;
import java.nio.file.Files;
import java.nio.file.Path;
import java.util.regex.Matcher;
import java.util.regex.Pattern;

/** README.md: its calls answer what it says, and it names each call and test. It is run from the project's root. */
public final class ReadmeTest {
    private static final Pattern BLOCK = Pattern.compile("(?s)```java\n(.*?)```");
    private static final Pattern CALL = Pattern.compile("kiln\\.(\\w+\\(.*\\)); *// (throws \\w+|\\w+).*");
    private static final Pattern TEXT = Pattern.compile("for \\(char c : (\".*\")\\.toCharArray\\(\\)\\) \\{");
    private static final String APPEND = "kiln.append(c);";
    private static final String NEW_KILN = "SaggarKiln kiln = new SaggarKiln();";

    private static int wrong;

    public static void main(String[] args) throws IOException {
        String readme = Files.readString(Path.of("README.md"));
        Script script = new Script();
        script.run("README.md", scriptOf(readme));
        for (Method method : SaggarKiln.class.getDeclaredMethods()) {
            boolean isNamed = readme.contains("`" + method.getName() + "`");
            check(isNamed || !Modifier.isPublic(method.getModifiers()), "the call is not named: " + method.getName());
        }
        try (DirectoryStream<Path> tests = Files.newDirectoryStream(Path.of("src", "test", "java"), "*Test.java")) {
            for (Path test : tests) {
                String name = test.getFileName().toString().replace(".java", "");
                check(readme.contains("`" + name + "`"), "the test is not named: " + name);
            }
        }
        if (wrong != 0) {
            System.exit(1);
        }
        script.end("README.md");
    }

    private static void check(boolean isFine, String otherwise) {
        if (!isFine) {
            wrong++;
            System.out.println(otherwise);
        }
    }

    /** The blocks of calls, which go on with one kiln, as one script. */
    private static String scriptOf(String readme) {
        StringBuilder script = new StringBuilder();
        Matcher block = BLOCK.matcher(readme);
        while (block.find()) {
            for (String line : block.group(1).split("\n")) {
                script.append(entryOf(line.strip())).append('\n');
            }
        }
        return script.toString();
    }

    private static String entryOf(String line) {
        Matcher call = CALL.matcher(line);
        Matcher text = TEXT.matcher(line);
        if (call.matches()) {
            return call.group(1) + " -> " + call.group(2);
        }
        if (text.matches()) {
            return text.group(1) + " -> " + (text.group(1).length() - 2);
        }
        check(line.equals(NEW_KILN) || line.equals(APPEND) || line.equals("}"), "a line that is not tested: " + line);
        return "";
    }
}
