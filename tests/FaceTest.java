import java.lang.reflect.Constructor;
import java.lang.reflect.Field;
import java.lang.reflect.Method;
import java.lang.reflect.Modifier;
import java.nio.file.Files;
import java.nio.file.Path;
import java.util.ArrayList;
import java.util.List;
import java.util.Set;
import java.util.TreeSet;
import java.util.regex.Matcher;
import java.util.regex.Pattern;

/** The face that DOC.md tells, and those rules of LANGUAGE.md that can be seen from outside. */
public final class FaceTest {
    private static final Due due = new Due("FaceTest");
    private static final Path PROJECT = Path.of(System.getProperty("project", "."));
    private static final Path SHARED = Path.of(System.getProperty("shared", "../shared"));

    public static void main(String[] args) throws Exception {
        Set<String> face = new TreeSet<>();
        Set<String> names = new TreeSet<>();
        Matcher told = Pattern.compile("public (int|long) (\\w+)\\(([^)]*)\\);")
                .matcher(Files.readString(SHARED.resolve("DOC.md")));
        while (told.find()) {
            face.add(told.group(1) + " " + told.group(2) + "/" + count(told.group(3)));
            names.add(told.group(2));
        }
        due.is("methods that the document tells", 49, face.size());
        outside(face);
        inside(names);
        source();
        due.end();
    }

    private static int count(String parameters) {
        return parameters.isEmpty() ? 0 : parameters.split(",").length;
    }

    private static void outside(Set<String> face) {
        Set<String> got = new TreeSet<>();
        for (Method method : RailsOfIce.class.getDeclaredMethods()) {
            if (Modifier.isPublic(method.getModifiers())) {
                got.add(method.getReturnType() + " " + method.getName() + "/" + method.getParameterCount());
                due.holds(method + " takes ints", List.of(method.getParameterTypes()).stream()
                        .allMatch(type -> type == int.class));
            } else {
                due.holds(method + " is private", Modifier.isPrivate(method.getModifiers()));
            }
        }
        due.holds("the face is " + got, got.equals(face));
        due.holds("final", Modifier.isFinal(RailsOfIce.class.getModifiers()));
        due.is("constructors", 1, RailsOfIce.class.getDeclaredConstructors().length);
        for (Constructor<?> made : RailsOfIce.class.getDeclaredConstructors()) {
            due.holds("public RailsOfIce()", Modifier.isPublic(made.getModifiers()) && made.getParameterCount() == 0);
        }
        for (Field field : RailsOfIce.class.getDeclaredFields()) {
            due.holds(field + " is private", Modifier.isPrivate(field.getModifiers()));
        }
    }

    private static void inside(Set<String> names) {
        List<Class<?>> all = new ArrayList<>(List.of(RailsOfIce.class.getDeclaredClasses()));
        due.holds("some twelve classes", all.size() <= 12);
        for (Class<?> part : all) {
            due.holds(part + " is static", Modifier.isStatic(part.getModifiers()));
            due.holds(part + " is not public", !Modifier.isPublic(part.getModifiers())
                    && !Modifier.isProtected(part.getModifiers()));
        }
        all.add(RailsOfIce.class);
        for (Class<?> part : all) {
            int fields = 0;
            for (Field field : part.getDeclaredFields()) {
                boolean fixed = Modifier.isStatic(field.getModifiers());
                due.holds(field + " is final if static", !fixed || Modifier.isFinal(field.getModifiers()));
                fields += fixed ? 0 : 1;
            }
            due.holds(part + " has some twenty fields", fields <= 20);
            for (Method method : part.getDeclaredMethods()) {
                due.holds(method + " takes seven at most", method.getParameterCount() <= 7);
                due.holds(method + " has a name of its own", Modifier.isPublic(method.getModifiers())
                        || !names.contains(method.getName()));
            }
        }
    }

    private static void source() throws Exception {
        String code = Files.readString(PROJECT.resolve("src/main/java/RailsOfIce.java"))
                .replaceAll("(?s)/\\*.*?\\*/", "").replaceAll("//[^\n]*", "");
        String[] ruledOut = {"\\bthrow", "\\btry\\b", "\\bcatch\\b", "\\bassert\\b", "\\bsynchronized\\b", "->", "::",
            "\\bimport\\b", "\\bpackage\\b", "\\bvar\\b", "\\bnative\\b", "\\bvolatile\\b", "Exact\\b", "\"",
            "\\bThread\\b", "\\bdouble\\b", "\\bfloat\\b", "\\bObject\\b", "\\binstanceof\\b", "System\\.(?!arraycopy)",
            "Math\\.(?!min|max|abs)", "[^\\x00-\\x7f]"};
        for (String word : ruledOut) {
            due.holds("no " + word, !Pattern.compile(word).matcher(code).find());
        }
        Matcher method = Pattern.compile("(?m)^( +)[\\w\\[\\]. ]+\\([^;{]*\\) \\{$[\\s\\S]*?^\\1\\}$").matcher(code);
        int methods = 0;
        while (method.find()) {
            methods++;
            String text = method.group();
            due.holds("sixty lines: " + text.substring(0, text.indexOf('\n')), text.split("\n").length <= 60);
        }
        due.holds("methods were found", methods > 100);
    }
}
