import java.io.IOException;
import java.lang.reflect.Constructor;
import java.lang.reflect.Field;
import java.lang.reflect.Method;
import java.lang.reflect.Modifier;
import java.nio.file.Files;
import java.nio.file.Path;
import java.util.ArrayList;
import java.util.List;
import java.util.TreeSet;
import java.util.regex.Matcher;
import java.util.regex.Pattern;

/** The face against the one that stands in the document, and what of LANGUAGE.md can be seen from outside. */
public final class FaceTest {
    private static final Path DOCUMENT = Path.of("../shared/DOC.md");
    private static final Path SOURCE = Path.of("src/main/java/FontInstancer.java");

    private FaceTest() {
    }

    public static void main(String[] args) throws IOException, IllegalAccessException {
        Check.dueText("the face", actualFace().toString(), documentFace().toString());
        constants();
        noOtherVisibleMember();
        namesAndParameters();
        source();
        Check.end("FaceTest");
    }

    private static TreeSet<String> documentFace() throws IOException {
        TreeSet<String> face = new TreeSet<>();
        for (String line : Files.readAllLines(DOCUMENT)) {
            if (line.startsWith("    public ") && line.endsWith(";")) {
                String text = line.substring(11, line.length() - 1).replace("static final ", "");
                text = text.replaceAll(" = .*", "").replaceAll("(\\w+) \\w+(?=[,)])", "$1").replace(", ", ",");
                face.add(text);
            }
        }
        Check.due("members in the document", face.size(), 48);
        return face;
    }

    private static TreeSet<String> actualFace() {
        TreeSet<String> face = new TreeSet<>();
        for (Constructor<?> made : FontInstancer.class.getConstructors()) {
            face.add("FontInstancer(" + types(made.getParameterTypes()) + ")");
        }
        for (Method method : FontInstancer.class.getDeclaredMethods()) {
            if (Modifier.isPublic(method.getModifiers())) {
                face.add(method.getReturnType() + " " + method.getName()
                        + "(" + types(method.getParameterTypes()) + ")");
            }
        }
        for (Field field : FontInstancer.class.getFields()) {
            face.add(field.getType() + " " + field.getName());
        }
        return face;
    }

    private static String types(Class<?>[] parameters) {
        List<String> names = new ArrayList<>();
        for (Class<?> parameter : parameters) {
            names.add(parameter.toString());
        }
        return String.join(",", names);
    }

    private static void constants() throws IOException, IllegalAccessException {
        Pattern constant = Pattern.compile("    public static final \\w+ (\\w+) = (.*);");
        for (String line : Files.readAllLines(DOCUMENT)) {
            Matcher matcher = constant.matcher(line);
            if (matcher.matches()) {
                String value = matcher.group(2).replace("Long.MIN_VALUE", "" + Long.MIN_VALUE);
                try {
                    Field field = FontInstancer.class.getField(matcher.group(1));
                    Check.due(matcher.group(1), ((Number) field.get(null)).longValue(), Long.parseLong(value));
                } catch (NoSuchFieldException missing) {
                    Check.dueText("constant", "missing", matcher.group(1));
                }
            }
        }
    }

    private static void noOtherVisibleMember() {
        int wanted = Modifier.PUBLIC | Modifier.FINAL;
        Check.due("public and final", FontInstancer.class.getModifiers() & wanted, wanted);
        for (Method method : FontInstancer.class.getDeclaredMethods()) {
            checkVisible("method " + method.getName(), method.getModifiers());
        }
        for (Field field : FontInstancer.class.getDeclaredFields()) {
            checkVisible("field " + field.getName(), field.getModifiers());
            if (Modifier.isStatic(field.getModifiers())) {
                Check.due("static field " + field.getName(), field.getModifiers() & Modifier.FINAL, Modifier.FINAL);
            }
        }
        int inside = FontInstancer.class.getDeclaredClasses().length;
        Check.due("at most twelve classes", inside < 12 ? 0 : inside, 0);
        for (Class<?> nested : FontInstancer.class.getDeclaredClasses()) {
            Check.due("static " + nested, nested.getModifiers() & Modifier.STATIC, Modifier.STATIC);
            Check.due("not public " + nested, nested.getModifiers() & (Modifier.PUBLIC | Modifier.PROTECTED), 0);
            int fields = nested.getDeclaredFields().length;
            Check.due("at most twenty fields " + nested, fields <= 20 ? 0 : fields, 0);
        }
    }

    private static void checkVisible(String what, int modifiers) {
        boolean right = Modifier.isPublic(modifiers) || Modifier.isPrivate(modifiers);
        Check.due(what + " is public or private", right ? 0 : 1, 0);
    }

    private static void namesAndParameters() {
        TreeSet<String> publicNames = new TreeSet<>();
        List<Method> others = new ArrayList<>();
        for (Method method : FontInstancer.class.getDeclaredMethods()) {
            if (Modifier.isPublic(method.getModifiers())) {
                publicNames.add(method.getName());
            } else {
                others.add(method);
            }
        }
        for (Class<?> nested : FontInstancer.class.getDeclaredClasses()) {
            others.addAll(List.of(nested.getDeclaredMethods()));
        }
        for (Method method : others) {
            Check.due("a name of its own: " + method, publicNames.contains(method.getName()) ? 1 : 0, 0);
            Check.due("at most seven parameters: " + method, method.getParameterCount() <= 7 ? 0 : 1, 0);
        }
    }

    private static void source() throws IOException {
        Pattern forbidden = Pattern.compile("->|::|\\b(import|package|lambda|synchronized|assert|finally|catch|try|throw"
                + "|var|record|yield|native|strictfp|equals|hashCode|toString|Exact)\\b");
        int started = 0;
        String indent = "";
        List<String> lines = Files.readAllLines(SOURCE);
        for (int number = 1; number <= lines.size(); number++) {
            String line = lines.get(number - 1);
            boolean comment = line.trim().startsWith("/*") || line.trim().startsWith("*") || line.trim().startsWith("//");
            Check.due("a word that is not used, line " + number, !comment && forbidden.matcher(line).find() ? 1 : 0, 0);
            if (line.matches("( {4}| {8})[a-z].*[(].*") && !line.contains(";")) {
                started = number;
                indent = line.substring(0, line.length() - line.stripLeading().length());
            }
            if (started > 0 && line.equals(indent + "}")) {
                Check.due("a short method, line " + started, number - started < 60 ? 0 : 1, 0);
                started = 0;
            }
        }
    }
}
