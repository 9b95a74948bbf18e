import java.io.IOException;
import java.lang.reflect.Field;
import java.lang.reflect.Method;
import java.lang.reflect.Modifier;
import java.nio.file.Files;
import java.nio.file.Path;
import java.util.ArrayList;
import java.util.List;
import java.util.Set;
import java.util.TreeSet;
import java.util.regex.Matcher;
import java.util.regex.Pattern;

/** The rules of ../shared/LANGUAGE.md that can be looked at by machine, and the document's face. */
public final class LanguageTests {
    private static final int MOST_LINES = 60;
    private static final int MOST_CLASSES = 12;
    private static final int MOST_FIELDS = 20;
    private static final int MOST_PARAMETERS = 7;

    private LanguageTests() {
    }

    public static void main(String[] args) throws IOException {
        Check.at("LANGUAGE.md");
        String source = Files.readString(Path.of("src/main/java/DoorTongue.java"));
        words(source);
        lengths(source);
        face();
        members();
        System.exit(Check.close("LanguageTests"));
    }

    private static void words(String source) {
        String code = source.replaceAll("//[^\n]*", "").replaceAll("\"[^\"]*\"", "\"\"");
        for (String no : List.of("throw", "throws", "try", "catch", "finally", "synchronized", "assert", "import",
                "package", "instanceof", "protected", "System\\.(?!arraycopy)", "Exact", "->", "::", "Object",
                "hashCode", "equals", "toString", "Exception", "float", "double", "@")) {
            Check.due(no + " stands there", Pattern.compile("(?<![A-Za-z])" + no + "(?![A-Za-z])").matcher(code).find(),
                false);
        }
        for (char c : source.toCharArray()) {
            if (c > 127) {
                Check.due("sign " + (int) c, 1, 0);
            }
        }
    }

    private static void lengths(String source) {
        String[] lines = source.split("\n");
        int began = -1;
        for (int i = 0; i < lines.length; i++) {
            boolean begins = lines[i].matches(" {4}(    )?[a-z].*\\) \\{");
            began = begins ? i : began;
            if (began >= 0 && lines[i].matches(" {4}(    )?\\}")) {
                Check.due("lines of " + lines[began].trim(), i - began < MOST_LINES, true);
                began = -1;
            }
        }
    }

    /** The public face as the document has it, no more and no less. */
    private static void face() throws IOException {
        String doc = Files.readString(Path.of("../shared/DOC.md"));
        Set<String> want = new TreeSet<>();
        Matcher m = Pattern.compile("public (int|long|boolean) (\\w+)\\(([^)]*)\\);").matcher(doc);
        while (m.find()) {
            want.add(m.group(1) + " " + m.group(2) + "(" + m.group(3).replaceAll(" \\w+(, |$)", "$1") + ")");
        }
        Set<String> have = new TreeSet<>();
        for (Method method : DoorTongue.class.getDeclaredMethods()) {
            if (!Modifier.isPrivate(method.getModifiers()) && !method.isSynthetic()) {
                List<String> kinds = new ArrayList<>();
                for (Class<?> kind : method.getParameterTypes()) {
                    kinds.add(kind.getName());
                }
                have.add(method.getReturnType() + " " + method.getName() + "(" + String.join(", ", kinds) + ")");
            }
        }
        Check.due("calls of the document", want.size(), 56);
        Check.due("the face " + have, have.equals(want), true);
        Check.due("public and final", DoorTongue.class.getModifiers(), Modifier.PUBLIC | Modifier.FINAL);
        Check.due("one constructor", DoorTongue.class.getDeclaredConstructors().length, 1);
        for (Field field : DoorTongue.class.getDeclaredFields()) {
            boolean open = !Modifier.isPrivate(field.getModifiers());
            Check.due(field.getName() + " is private", open == field.getName().equals("NONE"), true);
        }
    }

    private static void members() {
        List<Class<?>> all = new ArrayList<>(List.of(DoorTongue.class.getDeclaredClasses()));
        all.add(DoorTongue.class);
        Check.due("classes", all.size() <= MOST_CLASSES, true);
        Set<String> face = new TreeSet<>();
        for (Method method : DoorTongue.class.getDeclaredMethods()) {
            if (Modifier.isPublic(method.getModifiers())) {
                face.add(method.getName());
            }
        }
        for (Class<?> one : all) {
            int fields = 0;
            for (Field field : one.getDeclaredFields()) {
                boolean fixed = Modifier.isStatic(field.getModifiers());
                Check.due(field + " is final if static", !fixed || Modifier.isFinal(field.getModifiers()), true);
                fields += fixed ? 0 : 1;
            }
            Check.due("fields of " + one, fields <= MOST_FIELDS, true);
            Check.due(one + " is static", one == DoorTongue.class || Modifier.isStatic(one.getModifiers()), true);
            for (Method method : one.getDeclaredMethods()) {
                Check.due("parameters of " + method, method.getParameterCount() <= MOST_PARAMETERS, true);
                boolean named = face.contains(method.getName()) && !Modifier.isPublic(method.getModifiers());
                Check.due(method + " has a name of its own", named, false);
            }
        }
    }
}
