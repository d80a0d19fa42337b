import java.io.IOException;
import java.lang.reflect.Constructor;
import java.lang.reflect.Field;
import java.lang.reflect.Method;
import java.lang.reflect.Modifier;
import java.nio.file.Files;
import java.nio.file.Path;
import java.util.ArrayList;
import java.util.List;
import java.util.Set;
import java.util.TreeSet;
import java.util.regex.Matcher;
import java.util.regex.Pattern;

/** The public face as the document writes it, and what LANGUAGE.md rules out that can be seen from outside. */
public final class SongSquaresFace {
    private static final String[] METHODS = {"feed 1", "duchy 0", "fault 0", "told 1", "singer 2", "place 2", "verse 1", "join 1",
        "hush 1", "go 2", "give 2", "rate 1", "inspect 2", "drift 1", "undo 0", "treasury 1", "lasts 1", "more 2", "bears 3",
        "shared 2", "groups 2", "rates 1", "dry 2", "pay 2", "write 2", "tear 0", "judge 0", "seed 1", "keep 1", "goBack 1"};
    private static final String[] CONSTANTS = {"NONE", "UNKNOWN", "OUTSIDE", "NOT", "FULL"};
    private static final int[] VALUES = {-1, -1000000001, -1000000002, -1000000003, -1000000004};

    private static int wrong = 0;

    private static void check(boolean holds, String what) {
        if (!holds) {
            wrong++;
            System.out.println("the face: " + what);
        }
    }

    public static void main(String[] args) throws IOException, IllegalAccessException {
        face();
        classesInside();
        source(Files.readString(Path.of("src/main/java/SongSquares.java")));
        System.out.println(wrong == 0 ? "the face is as due" : wrong + " faults of the face");
        if (wrong != 0) {
            System.exit(1);
        }
    }

    private static void face() throws IllegalAccessException {
        int modifiers = SongSquares.class.getModifiers();
        check(Modifier.isPublic(modifiers) && Modifier.isFinal(modifiers), "the class is public and final");
        Set<String> found = new TreeSet<>();
        Set<String> hidden = new TreeSet<>();
        for (Method method : SongSquares.class.getDeclaredMethods()) {
            if (Modifier.isPrivate(method.getModifiers())) {
                hidden.add(method.getName());
            } else {
                check(Modifier.isPublic(method.getModifiers()) && !Modifier.isStatic(method.getModifiers()), method + " is public");
                check(method.getReturnType() == int.class, method + " answers an int");
                for (Class<?> parameter : method.getParameterTypes()) {
                    check(parameter == int.class, method + " takes ints");
                }
                found.add(method.getName() + " " + method.getParameterCount());
            }
        }
        check(found.equals(new TreeSet<>(List.of(METHODS))), "the methods are " + found);
        for (String method : METHODS) {
            check(!hidden.contains(method.substring(0, method.indexOf(' '))), "a private method is named as " + method);
        }
        Constructor<?>[] constructors = SongSquares.class.getDeclaredConstructors();
        check(constructors.length == 1 && Modifier.isPublic(constructors[0].getModifiers())
            && constructors[0].getParameterCount() == 0, "one public constructor");
        fields();
    }

    private static void fields() throws IllegalAccessException {
        List<String> seen = new ArrayList<>();
        for (Field field : SongSquares.class.getDeclaredFields()) {
            if (Modifier.isPrivate(field.getModifiers())) {
                check(!Modifier.isStatic(field.getModifiers()) || Modifier.isFinal(field.getModifiers()), field + " is final");
            } else {
                seen.add(field.getName());
                int at = List.of(CONSTANTS).indexOf(field.getName());
                check(at >= 0 && Modifier.isPublic(field.getModifiers()) && Modifier.isStatic(field.getModifiers())
                    && Modifier.isFinal(field.getModifiers()) && field.getInt(null) == VALUES[at], field + " is a constant of the document");
            }
        }
        check(seen.size() == CONSTANTS.length, "all constants are there");
    }

    private static void classesInside() {
        Class<?>[] inside = SongSquares.class.getDeclaredClasses();
        check(inside.length + 1 <= 12, "at most some twelve classes");
        for (Class<?> one : inside) {
            check(Modifier.isStatic(one.getModifiers()) && !Modifier.isPublic(one.getModifiers()), one + " is static and not public");
            int own = 0;
            for (Field field : one.getDeclaredFields()) {
                own += Modifier.isStatic(field.getModifiers()) ? 0 : 1;
                check(!Modifier.isStatic(field.getModifiers()) || Modifier.isFinal(field.getModifiers()), field + " is final");
            }
            check(own <= 20, one + " has at most some twenty fields");
            for (Method method : one.getDeclaredMethods()) {
                check(method.getParameterCount() <= 7, method + " has at most seven parameters");
            }
        }
    }

    private static void source(String text) {
        String code = text.replaceAll("(?s)/\\*.*?\\*/", "").replaceAll("//[^\n]*", "");
        String[] forbidden = {"throw", "throws", "try", "catch", "finally", "synchronized", "assert", "import", "package", "protected",
            "native", "volatile", "transient", "Exact", "Thread", "Object", "lambda", "yield"};
        for (String word : forbidden) {
            Matcher m = Pattern.compile("\\b" + word + "\\b").matcher(code);
            check(!m.find(), "the word " + word + " stands in the source");
        }
        check(!code.contains("->") && !code.contains("::"), "no lambda, no method reference");
        Matcher library = Pattern.compile("\\b(System|Math|Integer|Long|Arrays)\\.(\\w+)").matcher(code);
        Set<String> allowed = Set.of("System.arraycopy", "Math.min", "Math.max", "Integer.bitCount");
        while (library.find()) {
            check(allowed.contains(library.group()), library.group() + " is used");
        }
        for (int i = 0; i < text.length(); i++) {
            check(text.charAt(i) < 128, "a sign beyond 127 at " + i);
        }
    }
}
