import java.lang.reflect.Method;
import java.util.Arrays;
import java.util.HashMap;
import java.util.HashSet;
import java.util.Map;
import java.util.Set;

/** Every call with the ends of an int and numbers near 0, in every mixture: it answers what its promise names, throws
    nothing, and leaves all as it was where it refuses or only asks. */
public final class ExtremesTest extends Checks {
    static final int[] MANY = {LEAST, LEAST + 1, -2, -1, 0, 1, 2, 6, 24, 25, 120, MOST - 1, MOST};
    static final int[] FEW = {LEAST, -1, 0, 1, 2, MOST};
    static final long[] LONGS = {Long.MIN_VALUE, Long.MIN_VALUE + 0x31, -1, 0, 0x31, 0x3131313131313131L, Long.MAX_VALUE};
    /** Together with making a town and looking at it, these stay below the 512 calls of an object. */
    static final int CALLS_OF_AN_OBJECT = 60;

    static final Map<String, Set<Integer>> REFUSALS = new HashMap<>();
    static final Set<String> CHANGING = Set.of("noise", "seller", "of", "type", "town", "round", "tune", "likeness", "bylaw",
            "buyer", "window", "shut", "image", "restore", "sheet", "drop", "item", "copy");

    static void mayAnswer(String calls, Integer... refusals) {
        for (String call : calls.split(" ")) {
            REFUSALS.put(call, new HashSet<>(Arrays.asList(refusals)));
        }
    }

    static void tellRefusals() {
        mayAnswer("noise of round tune carries heard apart likeness bylaw count brings day best loudness clock", BAD);
        mayAnswer("seller type buyer window", BAD, FULL);
        mayAnswer("told where fate rests fresh quiet went dies", BAD, NONE);
        mayAnswer("costs", -100001);
        mayAnswer("town shut image");
        mayAnswer("restore", NONE);
        mayAnswer("hands came", BAD, NULL, CAST, INDEX, NOT, NONE);
        mayAnswer("sheet", BAD, SIZE);
        mayAnswer("drop", BAD, NULL);
        mayAnswer("item copy", BAD, NULL, CAST, INDEX);
    }

    static boolean isFault(String call, int answer) {
        return Set.of("town", "round", "tune").contains(call) && answer <= -20 && answer >= -80;
    }

    static boolean isPromised(String call, int answer) {
        boolean fine = answer >= 0 || call.equals("costs") && answer >= -12;
        return fine || isFault(call, answer) || REFUSALS.get(call).contains(answer);
    }

    static boolean changes(String call, int answer) {
        return CHANGING.contains(call) && (answer >= 0 || isFault(call, answer));
    }

    /** The mixture's digits tell which number stands at which place. */
    static Object[] arguments(Class<?>[] types, int[] numbers, int mixture) {
        Object[] arguments = new Object[types.length];
        int rest = mixture;
        for (int i = 0; i < types.length; i++) {
            int digit = rest % numbers.length;
            rest /= numbers.length;
            if (types[i] == long.class) {
                arguments[i] = LONGS[digit % LONGS.length];
            } else if (types[i] == boolean.class) {
                arguments[i] = digit % 2 == 0;
            } else {
                arguments[i] = numbers[digit];
            }
        }
        return arguments;
    }

    static void tryAll(Method call, Place place) throws ReflectiveOperationException {
        Class<?>[] types = call.getParameterTypes();
        int[] numbers = types.length > 4 ? FEW : MANY;
        int mixtures = 1;
        for (int i = 0; i < types.length; i++) {
            mixtures *= numbers.length;
        }
        String was = look(place.make());
        StreetCries x = place.make();
        int calls = 0;
        for (int mixture = 0; mixture < mixtures; mixture++) {
            Object[] arguments = arguments(types, numbers, mixture);
            int answer = (Integer) call.invoke(x, arguments);
            String told = call.getName() + Arrays.toString(arguments);
            check(isPromised(call.getName(), answer), told + " answered " + answer);
            calls++;
            boolean changed = changes(call.getName(), answer);
            if (changed || calls == CALLS_OF_AN_OBJECT || mixture == mixtures - 1) {
                check(changed || look(x).equals(was), "calls up to " + told + " changed what they may not");
                x = place.make();
                calls = 0;
            }
        }
    }

    public static void main(String[] args) throws ReflectiveOperationException {
        tellRefusals();
        for (Method call : StreetCries.class.getDeclaredMethods()) {
            if (REFUSALS.containsKey(call.getName())) {
                for (Place place : new Place[] {NOBODY, IMAGED, BUSY, FULL_TOWN}) {
                    tryAll(call, place);
                }
            }
        }
        end();
    }
}
