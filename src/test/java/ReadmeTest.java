import java.io.IOException;
import java.lang.reflect.InvocationTargetException;
import java.lang.reflect.Method;
import java.nio.file.Files;
import java.nio.file.Path;
import java.util.Arrays;
import java.util.regex.Matcher;
import java.util.regex.Pattern;

/** The examples of README.md, line by line: each call is answered as the comment behind it says. Runs in the project's folder. */
public final class ReadmeTest {
    private static final Pattern CALL = Pattern.compile("wall\\.(\\w+)\\(([-\\d, ]*)\\); // (-?\\d+): .*");
    private static final Pattern TEXT = Pattern.compile("tape\\(wall, ((?:\"[^\"]*\"(?: \\+ )?)+)\\);");

    private TinWall wall = new TinWall();
    private int calls = 0;

    private ReadmeTest() {
    }

    public static void main(String[] args) throws IOException, ReflectiveOperationException {
        new ReadmeTest().blocks(Files.readString(Path.of("README.md")));
        Check.done();
    }

    private void blocks(String readme) throws ReflectiveOperationException {
        for (String block : readme.split("```java\n", -1)) {
            int end = block.indexOf("```");
            boolean isExample = end >= 0 && block.substring(0, end).contains("// ");
            if (isExample) {
                for (String line : block.substring(0, end).replaceAll("\n {4}\\+ ", " + ").split("\n")) {
                    line(line);
                }
            }
        }
        Check.is("README.md has examples of calls", calls >= 35 ? 1 : 0, 1);
    }

    private void line(String line) throws ReflectiveOperationException {
        Matcher call = CALL.matcher(line);
        Matcher text = TEXT.matcher(line);
        if (line.equals("TinWall wall = new TinWall();")) {
            wall = new TinWall();
        } else if (text.matches()) {
            Check.tape(wall, text.group(1).replaceAll("\" \\+ \"", "").replace("\"", ""));
        } else if (call.matches()) {
            calls++;
            Check.is("README.md: " + line, answer(call.group(1), call.group(2)), Integer.parseInt(call.group(3)));
        } else {
            Check.is("README.md: a line that is no example: " + line, 0, 1);
        }
    }

    private int answer(String name, String numbers) throws IllegalAccessException, InvocationTargetException {
        Object[] with = numbers.isEmpty() ? new Object[0] : Arrays.stream(numbers.split(", ")).map(Integer::valueOf).toArray();
        for (Method method : TinWall.class.getMethods()) {
            if (method.getDeclaringClass() == TinWall.class && method.getName().equals(name) && method.getParameterCount() == with.length) {
                return (int) method.invoke(wall, with);
            }
        }
        Check.is("README.md: no such call: " + name, 0, 1);
        return 0;
    }
}
