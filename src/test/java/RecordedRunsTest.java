import java.io.IOException;
import java.nio.file.DirectoryStream;
import java.nio.file.Files;
import java.nio.file.Path;

/**
 * All promises: runs of calls with the answers that a second program gave, edges.txt a third one (in Python, with
 * whole numbers and fractions of any size; by the same hand, so they read the document's open places the same way).
 * A line is a call and its answer, or "new".
 */
public final class RecordedRunsTest {
    private static final Caller caller = new Caller();

    public static void main(String[] args) throws Exception {
        int wrong = 0;
        int files = 0;
        try (DirectoryStream<Path> runs = Files.newDirectoryStream(Path.of("src/test/runs"), "*.txt")) {
            for (Path file : runs) {
                files++;
                wrong += wrongIn(file);
            }
        }
        if (wrong > 0 || files == 0) {
            System.out.println(wrong + " wrong in " + files + " files");
            System.exit(1);
        }
    }

    private static int wrongIn(Path file) throws IOException, IllegalAccessException {
        MechanismHouse house = new MechanismHouse();
        int wrong = 0;
        int line = 0;
        for (String row : Files.readAllLines(file)) {
            line++;
            if (row.equals("new")) {
                house = new MechanismHouse();
                continue;
            }
            String[] sides = row.split(" = ");
            String got = caller.answer(house, sides[0].split(" "));
            if (!got.equals(sides[1])) {
                wrong++;
                System.out.println(file + ":" + line + ": " + sides[0] + " answered " + got + ", due is " + sides[1]);
            }
        }
        return wrong;
    }
}
