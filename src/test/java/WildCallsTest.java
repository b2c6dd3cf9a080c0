import java.lang.reflect.InvocationTargetException;
import java.lang.reflect.Method;
import java.lang.reflect.Modifier;
import java.util.ArrayList;
import java.util.List;
import java.util.Random;

/** The order of exceptions and LANGUAGE.md's rule 7: wild calls throw only what their own line tells, exactly. */
public final class WildCallsTest {
    private static final int[] EDGES = {Integer.MIN_VALUE, Integer.MAX_VALUE, -1, 0, 1, 2, 3, 4, 5, 6, 7, 8, 9, 12, 24,
        40, 60, 120, 255, 256, 300, 360, 1000, 1001, 1023, 1024, 2000, 2001, 4000, 10000, -1000, -1023};
    private static final String[] TEXTS = {"fix A 0 0;fix B 4 0;", "crank C A 1 0 1 0;", "dyad D C B 3 3 ?;",
        "body E C D 60 60;", "body F C E 60 60;", "slide G D 9 A B ?;", "cross H A C B D;", "dwell 180;",
        "rise 90 3 2;", "fall 90 3 4;", "rise 90 1/9973 3;", "turn 0 40;", "until 1 9 A + -1;", "again 9;", "way 3;",
        "dyad X X X 1 1 +;", "fix", "1/", "\u00ff", "-"};

    public static void main(String[] args) throws Exception {
        List<Method> methods = new ArrayList<>();
        for (Method method : MechanismHouse.class.getDeclaredMethods()) {
            if (Modifier.isPublic(method.getModifiers())) {
                methods.add(method);
            }
        }
        methods.sort((a, b) -> a.getName().compareTo(b.getName()));
        Random random = new Random(20261116);
        int wrong = 0;
        for (int run = 0; run < 350; run++) {
            MechanismHouse house = new MechanismHouse();
            // With those that type a TEXT these are some 400 calls: an object answers 512, no more.
            for (int k = 0; k < 160; k++) {
                if (random.nextInt(6) == 0) {
                    type(house, random);
                }
                wrong += isFine(house, methods.get(random.nextInt(methods.size())), random) ? 0 : 1;
            }
        }
        if (wrong > 0) {
            System.exit(1);
        }
    }

    private static void type(MechanismHouse house, Random random) {
        StringBuilder text = new StringBuilder();
        int first = random.nextInt(4) * 5;
        for (int k = random.nextInt(9); k >= 0; k--) {
            boolean any = random.nextInt(9) == 0;
            text.append(TEXTS[any ? random.nextInt(TEXTS.length) : Math.min(first, TEXTS.length - 1)]);
            first++;
        }
        Check.type(house, text.toString());
    }

    private static boolean isFine(MechanismHouse house, Method method, Random random) throws Exception {
        Class<?>[] types = method.getParameterTypes();
        Object[] values = new Object[types.length];
        for (int k = 0; k < types.length; k++) {
            if (types[k] == boolean.class) {
                values[k] = random.nextBoolean();
            } else {
                values[k] = random.nextInt(3) == 0 ? EDGES[random.nextInt(EDGES.length)] : random.nextInt(5);
            }
        }
        try {
            method.invoke(house, values);
            return true;
        } catch (InvocationTargetException e) {
            for (Class<?> told : method.getExceptionTypes()) {
                if (told == e.getCause().getClass()) {
                    return true;
                }
            }
            System.out.println(method.getName() + " threw " + e.getCause());
            return false;
        }
    }
}
