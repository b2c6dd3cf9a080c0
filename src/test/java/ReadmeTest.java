import java.io.IOException;
import java.nio.file.Files;
import java.nio.file.Path;

/** README.md: each example there answers what stands behind it. */
public final class ReadmeTest {
    private static final Caller caller = new Caller();
    private static MechanismHouse house = new MechanismHouse();
    private static int asked;
    private static int wrong;

    public static void main(String[] args) throws Exception {
        boolean inside = false;
        for (String line : Files.readAllLines(Path.of("README.md"))) {
            if (line.startsWith("```")) {
                inside = line.equals("```java");
            } else if (inside) {
                take(line.trim());
            }
        }
        if (wrong > 0 || asked == 0) {
            System.out.println(wrong + " wrong of " + asked + " examples");
            System.exit(1);
        }
    }

    private static void take(String line) throws IOException, IllegalAccessException {
        if (line.equals("MechanismHouse house = new MechanismHouse();")) {
            house = new MechanismHouse();
        } else if (line.startsWith("type(house, \"")) {
            Check.type(house, line.substring(line.indexOf('"') + 1, line.lastIndexOf('"')));
        } else if (line.startsWith("house.") && line.contains(");")) {
            ask(line);
        } else if (!line.isEmpty() && !line.startsWith("//")) {
            count("no example: " + line);
        }
    }

    /** A line is a call; behind // stands its answer or its exception first, what it means later; or nothing: void. */
    private static void ask(String line) throws IllegalAccessException {
        int open = line.indexOf('(');
        String inner = line.substring(open + 1, line.indexOf(");"));
        String numbers = inner.isEmpty() ? "" : " " + inner.replace(", ", " ");
        String call = line.substring("house.".length(), open) + numbers;
        String want = "void";
        if (line.contains("// ")) {
            want = line.substring(line.indexOf("// ") + 3).replace("throws ", "").split("[ :,]")[0];
        }
        asked++;
        String got = caller.answer(house, call.split(" "));
        if (!got.equals(want)) {
            count(line + " answered " + got);
        }
    }

    private static void count(String what) {
        wrong++;
        System.out.println(what);
    }
}
