import java.io.IOException;
import java.lang.reflect.Constructor;
import java.lang.reflect.Field;
import java.lang.reflect.Method;
import java.lang.reflect.Modifier;
import java.nio.file.Files;
import java.nio.file.Path;
import java.util.Arrays;
import java.util.Set;
import java.util.TreeSet;
import java.util.regex.Matcher;
import java.util.regex.Pattern;

/** The public face: what the document's block of Java tells, with the exceptions it names, and no member more. */
public final class FaceTest {
    private static final Check check = new Check();
    private static final Pattern METHOD =
            Pattern.compile("public (int|long|void) (\\w+)\\(([^)]*)\\)(?: throws ([\\w, ]+))?;");

    public static void main(String[] args) throws IOException {
        String document = Files.readString(Path.of("../shared/DOC.md"));
        String block = document.substring(document.indexOf("```java"), document.indexOf("## Terms"));
        same("methods", told(block), found());
        Class<?> house = MechanismHouse.class;
        check.due("public and final", house.getModifiers(), Modifier.PUBLIC | Modifier.FINAL);
        Constructor<?>[] constructors = house.getDeclaredConstructors();
        check.due("constructors", constructors.length, 1);
        check.due("a public one", constructors[0].getModifiers(), Modifier.PUBLIC);
        check.due("without parameters", constructors[0].getParameterCount(), 0);
        for (Field field : house.getDeclaredFields()) {
            check.due("private: " + field.getName(), Modifier.isPrivate(field.getModifiers()) ? 1 : 0, 1);
        }
        for (Class<?> inside : house.getDeclaredClasses()) {
            check.due("static: " + inside.getName(), Modifier.isStatic(inside.getModifiers()) ? 1 : 0, 1);
            check.due("not public: " + inside.getName(), Modifier.isPublic(inside.getModifiers()) ? 1 : 0, 0);
        }
        check.close();
    }

    private static void same(String what, Set<String> want, Set<String> got) {
        check.due("how many " + what, got.size(), want.size());
        for (String one : want) {
            check.due("is there: " + one, got.contains(one) ? 1 : 0, 1);
        }
    }

    private static Set<String> told(String block) {
        Set<String> methods = new TreeSet<>();
        Matcher matcher = METHOD.matcher(block);
        while (matcher.find()) {
            String[] parameters = matcher.group(3).isEmpty() ? new String[0] : matcher.group(3).split(", ");
            for (int k = 0; k < parameters.length; k++) {
                parameters[k] = parameters[k].split(" ")[0];
            }
            String[] thrown = matcher.group(4) == null ? new String[0] : matcher.group(4).split(", ");
            methods.add(row(matcher.group(1), matcher.group(2), parameters, thrown));
        }
        check.due("promises told", methods.size(), 41);
        return methods;
    }

    private static String row(String type, String name, String[] parameters, String[] thrown) {
        Arrays.sort(thrown);
        return type + " " + name + Arrays.toString(parameters) + " throws " + Arrays.toString(thrown);
    }

    private static Set<String> found() {
        Set<String> methods = new TreeSet<>();
        Set<String> names = new TreeSet<>();
        for (Method method : MechanismHouse.class.getDeclaredMethods()) {
            if (Modifier.isPrivate(method.getModifiers())) {
                continue;
            }
            check.due("public: " + method.getName(), method.getModifiers(), Modifier.PUBLIC);
            names.add(method.getName());
            methods.add(row(method.getReturnType().getName(), method.getName(), simple(method.getParameterTypes()),
                    simple(method.getExceptionTypes())));
        }
        for (Method method : MechanismHouse.class.getDeclaredMethods()) {
            boolean shadow = Modifier.isPrivate(method.getModifiers()) && names.contains(method.getName());
            check.due("no private one of the face's name: " + method.getName(), shadow ? 1 : 0, 0);
        }
        return methods;
    }

    private static String[] simple(Class<?>[] types) {
        String[] names = new String[types.length];
        for (int k = 0; k < types.length; k++) {
            names[k] = types[k].getSimpleName();
        }
        return names;
    }
}
