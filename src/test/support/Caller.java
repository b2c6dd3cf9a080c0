import java.lang.reflect.InvocationTargetException;
import java.lang.reflect.Method;
import java.util.HashMap;
import java.util.Map;

/** Calls of the face that are told as texts, and their answers as texts. */
final class Caller {
    private final Map<String, Method> methods = new HashMap<>();

    Caller() {
        for (Method method : MechanismHouse.class.getMethods()) {
            methods.put(method.getName(), method);
        }
    }

    /** The first word is the call, the others are its numbers: the answer, void, or the exception's simple name. */
    String answer(MechanismHouse house, String[] words) throws IllegalAccessException {
        Object[] values = new Object[words.length - 1];
        for (int k = 0; k < values.length; k++) {
            String word = words[k + 1];
            boolean truth = word.equals("true") || word.equals("false");
            values[k] = truth ? (Object) Boolean.valueOf(word) : (Object) Integer.decode(word);
        }
        try {
            Object answer = methods.get(words[0]).invoke(house, values);
            return answer == null ? "void" : answer.toString();
        } catch (InvocationTargetException e) {
            return e.getCause().getClass().getSimpleName();
        }
    }
}
