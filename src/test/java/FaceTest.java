import java.io.IOException;
import java.lang.reflect.Constructor;
import java.lang.reflect.Field;
import java.lang.reflect.Method;
import java.lang.reflect.Modifier;
import java.nio.file.Files;
import java.nio.file.Path;
import java.util.Arrays;
import java.util.Set;
import java.util.TreeSet;
import java.util.regex.Matcher;
import java.util.regex.Pattern;

/** The face of the class, its constants, and the rules of the language that a look at the text can tell. */
public final class FaceTest {
    private static final Path PROGRAM = Path.of("src/main/java/RankIndex.java");
    private static final String[] FACE = {
        "told 1", "node 2", "key 2", "at 1", "put 2", "take 1", "worth 2", "cut 1", "batch 3", "rebuild 0", "join 1",
        "drift 1", "undo 1", "less 1", "beside 2", "between 3", "way 2", "audit 2", "seed 1", "keep 1", "goBack 1"};
    private static final String[] BANNED = {
        "throw", "throws", "try", "catch", "finally", "synchronized", "assert", "protected", "package", "Object", "hashCode",
        "toString", "Random", "Thread", "->", "::", "\\.\\.\\.", "addExact", "@", "currentTimeMillis", "nanoTime"};
    private static final int LONGEST_METHOD = 60;
    private static final int MOST_CLASSES = 12;
    private static final Due DUE = new Due("FaceTest");

    public static void main(String[] args) throws IOException {
        constants();
        methods();
        nested(RankIndex.class);
        text(Files.readString(PROGRAM));
        DUE.end();
    }

    private static void constants() {
        DUE.due("NONE", RankIndex.NONE, -1);
        DUE.due("UNKNOWN", RankIndex.UNKNOWN, -1000000001);
        DUE.due("OUTSIDE", RankIndex.OUTSIDE, -1000000002);
        DUE.due("NOT", RankIndex.NOT, -1000000003);
        DUE.due("FULL", RankIndex.FULL, -1000000004);
        Set<String> seen = new TreeSet<>();
        for (Field field : RankIndex.class.getDeclaredFields()) {
            if (!Modifier.isPrivate(field.getModifiers())) {
                seen.add(Modifier.toString(field.getModifiers()) + " " + field.getType() + " " + field.getName());
            }
        }
        String form = "public static final int ";
        DUE.due("fields that are not private", seen, new TreeSet<>(Arrays.asList(
            form + "NONE", form + "UNKNOWN", form + "OUTSIDE", form + "NOT", form + "FULL")));
    }

    private static void methods() {
        DUE.due("the class", Modifier.toString(RankIndex.class.getModifiers()), "public final");
        Constructor<?>[] constructors = RankIndex.class.getDeclaredConstructors();
        DUE.due("constructors", constructors.length, 1);
        DUE.due("the constructor", Modifier.toString(constructors[0].getModifiers()) + constructors[0].getParameterCount(), "public0");
        Set<String> seen = new TreeSet<>();
        Set<String> hidden = new TreeSet<>();
        for (Method method : RankIndex.class.getDeclaredMethods()) {
            if (Modifier.isPrivate(method.getModifiers())) {
                hidden.add(method.getName());
                continue;
            }
            seen.add(method.getName() + " " + method.getParameterCount());
            DUE.due(method.getName(), Modifier.toString(method.getModifiers()) + " " + method.getReturnType(), "public int");
            DUE.due(method.getName() + " takes ints alone",
                Arrays.stream(method.getParameterTypes()).allMatch(t -> t == int.class), true);
        }
        DUE.due("methods that are not private", seen, new TreeSet<>(Arrays.asList(FACE)));
        for (String name : FACE) {
            DUE.due("a private method of the name " + name, hidden.contains(name.split(" ")[0]), false);
        }
    }

    private static void nested(Class<?> outer) {
        Class<?>[] classes = outer.getDeclaredClasses();
        DUE.due("not too many classes", classes.length < MOST_CLASSES, true);
        for (Class<?> inner : classes) {
            DUE.due(inner.getSimpleName() + " is static", Modifier.isStatic(inner.getModifiers()), true);
            DUE.due(inner.getSimpleName() + " is not public", Modifier.isPublic(inner.getModifiers()), false);
            for (Method method : inner.getDeclaredMethods()) {
                DUE.due(inner.getSimpleName() + "." + method.getName() + " has a name of its own",
                    Arrays.stream(FACE).anyMatch(f -> f.startsWith(method.getName() + " ")), false);
                DUE.due(method.getName() + " has at most seven parameters", method.getParameterCount() <= 7, true);
            }
            for (Field field : inner.getDeclaredFields()) {
                boolean isVariable = Modifier.isStatic(field.getModifiers()) && !Modifier.isFinal(field.getModifiers());
                DUE.due(inner.getSimpleName() + "." + field.getName() + " is no static variable", isVariable, false);
            }
        }
    }

    private static void text(String source) {
        String code = source.replaceAll("(?s)/\\*.*?\\*/", "").replaceAll("//[^\n]*", "");
        for (String word : BANNED) {
            String pattern = Character.isLetter(word.charAt(0)) ? "\\b" + word + "\\b" : word;
            DUE.due("the text has " + word, Pattern.compile(pattern).matcher(code).find(), false);
        }
        Matcher imports = Pattern.compile("import ([^;]*);").matcher(code);
        while (imports.find()) {
            DUE.due("an import", imports.group(1), "java.util.Arrays");
        }
        DUE.due("no package line", code.trim().startsWith("import") || code.trim().startsWith("public final class"), true);
        DUE.due("signs of 7 bits", source.chars().allMatch(c -> c < 128), true);
        methodLengths(source);
    }

    private static void methodLengths(String source) {
        int length = 0;
        String opened = "";
        for (String line : source.split("\n")) {
            length++;
            if (line.matches(" +[a-z].*\\) \\{") && !line.matches(" +(if|for|while|switch|else).*")) {
                opened = line.trim();
                length = 0;
            }
            DUE.due("length of " + opened, length <= LONGEST_METHOD || opened.isEmpty(), true);
        }
    }
}
