import java.lang.reflect.Method;
import java.lang.reflect.Modifier;
import java.nio.file.Files;
import java.nio.file.Path;
import java.util.Arrays;
import java.util.regex.Matcher;
import java.util.regex.Pattern;

/** Plays the calls that README.md shows, and looks whether they answer what it says. */
public final class ReadmeTest {
    private static final Pattern BLOCK = Pattern.compile("(?s)```java\\R(.*?)```");
    private static final Pattern CALL = Pattern.compile("wall\\.(\\w+)\\(([-\\d, ]*)\\); +// (-?\\d+)( .*)?");
    private static final Pattern TOLD = Pattern.compile("tell\\(wall, \"(.*)\"\\); +// (-?\\d+)( .*)?");
    private static final String MADE = "ANailInTheWall wall = new ANailInTheWall();";

    public static void main(String[] args) throws Exception {
        String readme = Files.readString(Path.of(System.getProperty("readme")));
        Matcher block = BLOCK.matcher(readme);
        int blocks = 0;
        while (block.find()) {
            blocks++;
            Checks.in("README.md, block " + blocks);
            play(block.group(1).split("\\R"));
        }
        Checks.in("README.md");
        Checks.dueTrue("it shows too few blocks", blocks >= 5);
        for (Method each : ANailInTheWall.class.getDeclaredMethods()) {
            boolean isNamed = readme.contains("`" + each.getName() + "`");
            Checks.dueTrue("it doesn't name " + each.getName(), isNamed || !Modifier.isPublic(each.getModifiers()));
        }
        Checks.dueTrue("it doesn't say how tests are run", readme.contains("    .ci/run"));
        Checks.end();
    }

    private static void play(String[] lines) throws Exception {
        Checks.dueTrue("it begins with " + lines[0], lines[0].equals(MADE));
        ANailInTheWall wall = new ANailInTheWall();
        for (String line : Arrays.copyOfRange(lines, 1, lines.length)) {
            Matcher call = CALL.matcher(line);
            Matcher told = TOLD.matcher(line);
            if (call.matches()) {
                Checks.due(line, answer(wall, call.group(1), call.group(2)), Long.parseLong(call.group(3)));
            } else if (told.matches()) {
                Checks.due(line, tell(wall, told.group(1)), Long.parseLong(told.group(2)));
            } else {
                Checks.dueTrue("can't be played: " + line, false);
            }
        }
    }

    private static long answer(ANailInTheWall wall, String name, String list) throws Exception {
        Object[] numbers = list.isBlank() ? new Object[0]
                : Arrays.stream(list.split(", ")).map(Integer::valueOf).toArray();
        Class<?>[] types = new Class<?>[numbers.length];
        Arrays.fill(types, int.class);
        return ((Number) ANailInTheWall.class.getMethod(name, types).invoke(wall, numbers)).longValue();
    }

    private static int tell(ANailInTheWall wall, String text) {
        for (int i = 0; i < text.length(); i++) {
            wall.letter(text.charAt(i));
        }
        return wall.wall();
    }
}
