import java.lang.reflect.Constructor;
import java.lang.reflect.Field;
import java.lang.reflect.Method;
import java.lang.reflect.Modifier;
import java.nio.file.Files;
import java.nio.file.Path;
import java.util.Arrays;
import java.util.HashSet;
import java.util.Set;
import java.util.TreeSet;
import java.util.regex.Matcher;
import java.util.regex.Pattern;

/** The public face, and those rules of LANGUAGE.md that can be seen in the text of the class. */
public final class LanguageTest {
    private static final String[] FACE = {
        "int best()", "int count(int)", "int covers(int,int)", "int fill()", "int from()", "int hang(int)",
        "int hole(int)", "int holes(int)", "int image()", "int judge()", "int kind()", "int letter(int)",
        "int lots(int,int)", "int middle(int,int)", "int nail(int,int)", "int next(int)", "int old()", "int on()",
        "int pipe(int,int)", "int risk(int)", "int row(int)", "int safest()", "int set(int,int)",
        "int sure(int,int)", "int telling(int,int,int)", "int tool(int,int)", "int twin(int)", "int two(int)",
        "int wall()", "int wire(int,int)", "int wood(int,int)", "long both(int,int)", "long happened(int,int)",
        "long likely(int,int)", "long mean(int,int)", "long twinLikely(int,int,int)", "long weight(int)",
        "long worth(int,int)",
    };
    private static final Pattern BANNED = Pattern.compile("\\b(throw|throws|try|catch|synchronized|assert|import|"
            + "package|native|volatile|transient|strictfp|protected|var|yield)\\b|->|::|@");
    private static final Pattern LIBRARY = Pattern.compile("\\b(Math|Integer|Long|System|Arrays|String|Character|"
            + "StringBuilder|Boolean|Object|Thread|Runtime)\\s*\\.\\s*(\\w+)");
    private static final Set<String> ALLOWED = Set.of("Math.max", "Math.min", "Math.abs", "Math.floorMod",
            "Integer.bitCount", "Long.bitCount", "System.arraycopy");
    private static final Pattern METHOD = Pattern.compile(
            "(?m)^( +)(?:public |private |static |final )*[\\w\\[\\]]+ (\\w+)\\(([^)]*)\\) \\{\\R");

    public static void main(String[] args) throws Exception {
        Checks.in("the face");
        face();
        String source = Files.readString(Path.of(System.getProperty("main")));
        Checks.in("the text");
        text(source);
        Checks.end();
    }

    private static void face() {
        Class<?> c = ANailInTheWall.class;
        Checks.due("modifiers", c.getModifiers(), Modifier.PUBLIC | Modifier.FINAL);
        Set<String> found = new TreeSet<>();
        Set<String> publicNames = new HashSet<>();
        for (Method m : c.getDeclaredMethods()) {
            if (Modifier.isPublic(m.getModifiers())) {
                Checks.due(m + " modifiers", m.getModifiers(), Modifier.PUBLIC);
                String parameters = String.join(",",
                        Arrays.stream(m.getParameterTypes()).map(Class::getName).toArray(String[]::new));
                found.add(m.getReturnType() + " " + m.getName() + "(" + parameters + ")");
                publicNames.add(m.getName());
            }
        }
        Checks.dueTrue("the public methods are " + found, found.equals(new TreeSet<>(Arrays.asList(FACE))));
        for (Method m : c.getDeclaredMethods()) {
            boolean isOwn = Modifier.isPrivate(m.getModifiers()) && !publicNames.contains(m.getName());
            Checks.dueTrue(m + " is of the face or private", isOwn || Modifier.isPublic(m.getModifiers()));
        }
        for (Field f : c.getDeclaredFields()) {
            Checks.dueTrue(f + " is private", Modifier.isPrivate(f.getModifiers()));
        }
        Constructor<?>[] made = c.getDeclaredConstructors();
        Checks.due("constructors", made.length, 1);
        Checks.due("constructor", made[0].getParameterCount() + made[0].getModifiers(), Modifier.PUBLIC);
        Checks.dueTrue("classes", c.getDeclaredClasses().length <= 11);
        for (Class<?> inside : c.getDeclaredClasses()) {
            int modifiers = inside.getModifiers();
            Checks.dueTrue(inside + " is static", Modifier.isStatic(modifiers));
            Checks.dueTrue(inside + " is not public", !Modifier.isPublic(modifiers));
            for (Method m : inside.getDeclaredMethods()) {
                Checks.dueTrue(m + " bears a name of its own", !publicNames.contains(m.getName()));
            }
        }
        staticFields(c);
    }

    private static void staticFields(Class<?> c) {
        for (Field f : c.getDeclaredFields()) {
            int modifiers = f.getModifiers();
            Checks.dueTrue(f + " is final", !Modifier.isStatic(modifiers) || Modifier.isFinal(modifiers));
        }
        for (Class<?> inside : c.getDeclaredClasses()) {
            Checks.dueTrue(inside + " has few fields", Arrays.stream(inside.getDeclaredFields())
                    .filter(f -> !Modifier.isStatic(f.getModifiers())).count() <= 20);
            staticFields(inside);
        }
    }

    private static void text(String source) {
        Checks.dueTrue("signs 1 to 127 alone", source.chars().allMatch(c -> c > 0 && c < 128));
        String code = source.replaceAll("(?s)/\\*.*?\\*/", "").replaceAll("//[^\\n]*", "")
                .replaceAll("\"[^\"\\n]*\"", "\"\"").replaceAll("'[^'\\n]'", "' '");
        Matcher banned = BANNED.matcher(code);
        while (banned.find()) {
            Checks.dueTrue("the word " + banned.group(), false);
        }
        Matcher library = LIBRARY.matcher(code);
        while (library.find()) {
            String name = library.group(1) + "." + library.group(2);
            Checks.dueTrue("the library's " + name, ALLOWED.contains(name));
        }
        for (String line : code.split("\\R")) {
            boolean makes = line.matches(".*\\bnew\\b.*");
            Checks.dueTrue("made in a call, where the room is small:" + line,
                    !makes || line.matches(" +(private )?final [\\w\\[\\]]+ \\w+ = new .*;"));
        }
        methods(code);
    }

    private static void methods(String code) {
        Matcher method = METHOD.matcher(code);
        int methods = 0;
        while (method.find()) {
            methods++;
            int end = code.indexOf("\n" + method.group(1) + "}", method.start());
            long lines = code.substring(method.start(), end).lines().count();
            Checks.dueTrue(method.group(2) + " is short", lines <= 60);
            Checks.dueTrue(method.group(2) + " takes few", method.group(3).split(",").length <= 7);
        }
        Checks.dueTrue("methods are found", methods > FACE.length);
    }
}
