import java.io.IOException;
import java.lang.reflect.Constructor;
import java.lang.reflect.Field;
import java.lang.reflect.Method;
import java.lang.reflect.Modifier;
import java.nio.file.Files;
import java.nio.file.Path;
import java.util.ArrayList;
import java.util.List;
import java.util.Set;
import java.util.TreeSet;
import java.util.regex.Matcher;
import java.util.regex.Pattern;

/** The public face as the document writes it, and README.md: its examples answer what it says there. */
public final class SongSquaresFace {
    private static final String[] METHODS = {"feed 1", "duchy 0", "fault 0", "told 1", "singer 2", "place 2", "verse 1", "join 1",
        "hush 1", "go 2", "give 2", "rate 1", "inspect 2", "drift 1", "undo 0", "treasury 1", "lasts 1", "more 2", "bears 3",
        "shared 2", "groups 2", "rates 1", "dry 2", "pay 2", "write 2", "tear 0", "judge 0", "seed 1", "keep 1", "goBack 1"};
    private static final String[] CONSTANTS = {"NONE", "UNKNOWN", "OUTSIDE", "NOT", "FULL"};
    private static final int[] VALUES = {-1, -1000000001, -1000000002, -1000000003, -1000000004};

    private static int wrong = 0;

    private static void check(boolean holds, String what) {
        if (!holds) {
            wrong++;
            System.out.println("the face: " + what);
        }
    }

    public static void main(String[] args) throws IOException, ReflectiveOperationException {
        face();
        fields();
        String readme = Files.readString(Path.of("README.md"));
        check(examples(readme) >= 10, "README.md has examples");
        namesAll(readme);
        System.out.println(wrong == 0 ? "the face and README.md are as due" : wrong + " faults of the face or of README.md");
        if (wrong != 0) {
            System.exit(1);
        }
    }

    private static void face() {
        int modifiers = SongSquares.class.getModifiers();
        check(Modifier.isPublic(modifiers) && Modifier.isFinal(modifiers), "the class is public and final");
        Set<String> found = new TreeSet<>();
        for (Method method : SongSquares.class.getDeclaredMethods()) {
            if (!Modifier.isPrivate(method.getModifiers())) {
                check(Modifier.isPublic(method.getModifiers()) && !Modifier.isStatic(method.getModifiers()), method + " is public");
                check(method.getReturnType() == int.class, method + " answers an int");
                for (Class<?> parameter : method.getParameterTypes()) {
                    check(parameter == int.class, method + " takes ints");
                }
                found.add(method.getName() + " " + method.getParameterCount());
            }
        }
        check(found.equals(new TreeSet<>(List.of(METHODS))), "the methods are " + found);
        Constructor<?>[] constructors = SongSquares.class.getDeclaredConstructors();
        check(constructors.length == 1 && Modifier.isPublic(constructors[0].getModifiers())
            && constructors[0].getParameterCount() == 0, "one public constructor");
    }

    private static void fields() throws IllegalAccessException {
        List<String> seen = new ArrayList<>();
        for (Field field : SongSquares.class.getDeclaredFields()) {
            if (!Modifier.isPrivate(field.getModifiers())) {
                seen.add(field.getName());
                int at = List.of(CONSTANTS).indexOf(field.getName());
                check(at >= 0 && Modifier.isPublic(field.getModifiers()) && Modifier.isStatic(field.getModifiers())
                    && Modifier.isFinal(field.getModifiers()) && field.getInt(null) == VALUES[at], field + " is a constant of the document");
            }
        }
        check(seen.size() == CONSTANTS.length, "all constants are there");
    }

    /** Makes every call of README.md's examples that tells its answer behind '// '; how many there were. */
    private static int examples(String readme) throws ReflectiveOperationException {
        SongSquares song = new SongSquares();
        int calls = 0;
        boolean code = false;
        for (String line : readme.split("\n")) {
            if (line.startsWith("```")) {
                code = line.equals("```java");
            } else if (code) {
                calls += exampleLine(song, line);
            }
        }
        return calls;
    }

    private static int exampleLine(SongSquares song, String line) throws ReflectiveOperationException {
        Matcher text = Pattern.compile("\"([^\"]*)\"").matcher(line);
        if (text.find()) {
            for (char letter : text.group(1).toCharArray()) {
                song.feed(letter);
            }
        }
        Matcher call = Pattern.compile("song\\.(\\w+)\\(([^)]*)\\);\\s+// (\\w+).*").matcher(line);
        if (!call.matches()) {
            return 0;
        }
        String[] words = call.group(2).isEmpty() ? new String[0] : call.group(2).split(", ");
        Object[] arguments = new Object[words.length];
        Class<?>[] types = new Class<?>[words.length];
        for (int i = 0; i < words.length; i++) {
            arguments[i] = number(words[i]);
            types[i] = int.class;
        }
        Object got = SongSquares.class.getMethod(call.group(1), types).invoke(song, arguments);
        check(got.equals(number(call.group(3))), "README.md: " + line + " answered " + got);
        return 1;
    }

    private static int number(String word) {
        int at = List.of(CONSTANTS).indexOf(word.replace("SongSquares.", ""));
        return at >= 0 ? VALUES[at] : Integer.parseInt(word);
    }

    private static void namesAll(String readme) {
        for (String method : METHODS) {
            String name = method.substring(0, method.indexOf(' '));
            check(readme.contains("`" + name + "("), "README.md does not tell of " + name);
        }
        for (String constant : CONSTANTS) {
            check(readme.contains("`" + constant + "`"), "README.md does not tell of " + constant);
        }
    }
}
