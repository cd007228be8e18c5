import java.lang.reflect.Constructor;
import java.lang.reflect.Field;
import java.lang.reflect.Method;
import java.lang.reflect.Modifier;
import java.nio.file.Files;
import java.nio.file.Path;
import java.util.TreeSet;
import java.util.regex.Matcher;
import java.util.regex.Pattern;

/** The face, and those rules of LANGUAGE.md that a look at the source can hold. */
public final class LanguageTests {
    private static final String FACE = "about act back by can carts end fault feed fewest fits forever forget hollow "
        + "image measure next now part place played text tried undo whatever";
    private static final String BANNED = "throw|throws|try|catch|synchronized|assert|protected|volatile|native|"
        + "Object|System\\.out|System\\.exit|Random|Thread|equals|hashCode|toString|null|Exact";
    private static int wrong = 0;

    private static void due(String what, boolean holds) {
        if (!holds) {
            wrong++;
            System.out.println("not so: " + what);
        }
    }

    private static void face() {
        due("public and final", Modifier.isPublic(HiddenDrawers.class.getModifiers())
            && Modifier.isFinal(HiddenDrawers.class.getModifiers()));
        TreeSet<String> names = new TreeSet<>();
        for (Method method : HiddenDrawers.class.getDeclaredMethods()) {
            boolean open = Modifier.isPublic(method.getModifiers());
            due(method + " is public or private", open || Modifier.isPrivate(method.getModifiers()));
            if (open) due(method + " is there once", names.add(method.getName()));
        }
        due("the face's methods, but " + names, String.join(" ", names).equals(FACE));
        for (Field field : HiddenDrawers.class.getDeclaredFields()) {
            boolean constant = field.getName().equals("NONE") || field.getName().equals("SPENT");
            due(field + " is private", constant || Modifier.isPrivate(field.getModifiers()));
        }
        Constructor<?>[] constructors = HiddenDrawers.class.getDeclaredConstructors();
        due("one public constructor", constructors.length == 1 && Modifier.isPublic(constructors[0].getModifiers())
            && constructors[0].getParameterCount() == 0);
        Class<?>[] inside = HiddenDrawers.class.getDeclaredClasses();
        due("twelve classes at most", inside.length < 12);
        for (Class<?> one : inside) insideClass(one);
    }

    private static void insideClass(Class<?> one) {
        int mode = one.getModifiers();
        due(one + " is static", Modifier.isStatic(mode) && !Modifier.isPublic(mode) && !Modifier.isProtected(mode));
        int fields = 0;
        for (Field field : one.getDeclaredFields()) {
            due(field + " is not static state", !Modifier.isStatic(field.getModifiers()) || Modifier.isFinal(field.getModifiers()));
            fields += Modifier.isStatic(field.getModifiers()) ? 0 : 1;
        }
        due(one + " has twenty fields at most", fields <= 20);
        for (Method method : one.getDeclaredMethods()) {
            due(method + " has no name of the face", !(" " + FACE + " ").contains(" " + method.getName() + " "));
            due(method + " has seven parameters at most", method.getParameterCount() <= 7);
        }
    }

    private static void source() throws java.io.IOException {
        String source = Files.readString(Path.of("src/main/java/HiddenDrawers.java"));
        for (int i = 0; i < source.length(); i++) due("plain signs only", source.charAt(i) < 127);
        String code = source.replaceAll("(?s)/\\*.*?\\*/", "").replaceAll("//[^\n]*", "").replaceAll("\"[^\"\n]*\"", "\"\"");
        Matcher banned = Pattern.compile("\\b(" + BANNED + ")\\b|->|::|\"\" *\\+|\\+ *\"\"").matcher(code);
        while (banned.find()) due("no " + banned.group(), false);
        Matcher imports = Pattern.compile("import ([^;]*);").matcher(code);
        while (imports.find()) due("no import of " + imports.group(1), imports.group(1).equals("java.util.Arrays"));
        methodLengths(source);
    }

    private static void methodLengths(String source) {
        String[] lines = source.split("\n");
        int from = -1;
        String indent = "";
        for (int i = 0; i < lines.length; i++) {
            Matcher head = Pattern.compile("^( {4}| {8})[^ =][^=;]*\\) \\{$").matcher(lines[i]);
            if (head.find()) {
                from = i;
                indent = head.group(1);
            } else if (from >= 0 && lines[i].equals(indent + "}")) {
                due("a short method at line " + (from + 1), i - from < 60);
                from = -1;
            }
        }
    }

    public static void main(String[] args) throws java.io.IOException {
        face();
        source();
        System.out.println(wrong == 0 ? "the source keeps to its rules" : wrong + " rules are not kept");
        if (wrong != 0) System.exit(1);
    }
}
