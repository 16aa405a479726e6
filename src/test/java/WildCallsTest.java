import java.lang.reflect.InvocationTargetException;
import java.lang.reflect.Method;
import java.lang.reflect.Modifier;
import java.util.ArrayList;
import java.util.Comparator;
import java.util.List;
import java.util.NoSuchElementException;
import java.util.Random;
import java.util.Set;

/** Any calls with any numbers (always the same ones), 512 of an object: none throws but those that the document lets throw. */
public final class WildCallsTest {
    private static final Checks CHECKS = new Checks();
    private static final int OBJECTS = 400;
    private static final Set<String> THROWING = Set.of("whatIf", "tried", "look");
    private static final int[] ODD = {Integer.MIN_VALUE, Integer.MAX_VALUE, Integer.MIN_VALUE + 1, 1 << 30, 1 << 16, -8, -1, 31, 32,
        33, 64, 255, 256, 999, 1000, 9999, 10000, 99999};
    private static final String[] TEXTS = {"", "issue 1", "weight might;issue 60;fine over;bar 0;", "fall when hungry/0;", ";", "((((",
        "issue 9999*9999*9999/(0-1);", "weight 0-9999*9999*9;rests might;", "void bar;void fine;duty 99;", "duty 1 not",
        "issue not(not(1<2))and 3-(4);"};
    private final Random random;
    private final List<Method> face = new ArrayList<>();

    private WildCallsTest(long seed) {
        random = new Random(seed);
        for (Method method : CoalVend.class.getDeclaredMethods()) {
            if (Modifier.isPublic(method.getModifiers())) {
                face.add(method);
            }
        }
        face.sort(Comparator.comparing(Method::toString));
    }

    private Object wild(Class<?> type) {
        if (type == boolean.class) {
            return random.nextBoolean();
        }
        if (type == long.class) {
            return random.nextLong();
        }
        return random.nextInt(4) > 0 ? random.nextInt(random.nextBoolean() ? 3 : 61) : ODD[random.nextInt(ODD.length)];
    }

    private void call(CoalVend vend) throws IllegalAccessException {
        Method method = face.get(random.nextInt(face.size()));
        Object[] arguments = new Object[method.getParameterCount()];
        for (int i = 0; i < arguments.length; i++) {
            arguments[i] = wild(method.getParameterTypes()[i]);
        }
        try {
            method.invoke(vend, arguments);
        } catch (InvocationTargetException e) {
            boolean right = e.getCause() instanceof NoSuchElementException && THROWING.contains(method.getName());
            CHECKS.due(method.getName() + List.of(arguments) + " threw " + e.getCause(), true, right);
        }
    }

    private void run() throws IllegalAccessException {
        CoalVend vend = new CoalVend();
        for (int i = random.nextInt(11); i > 0; i--) {
            vend.owner(random.nextInt(5), 1 + random.nextInt(999), random.nextInt(100), random.nextInt(100));
            vend.ship(8 + random.nextInt(89), random.nextInt(5));
            vend.winds(random.nextInt(4), 1 + random.nextInt(60));
        }
        for (int i = 0; i < 440; i++) {
            if (random.nextInt(40) == 0) {
                Checks.feed(vend, TEXTS[random.nextInt(TEXTS.length)]);
            } else {
                call(vend);
            }
        }
        CHECKS.due("NOW is 0 to 720", true, vend.count(0) >= 0 && vend.count(0) <= 720);
    }

    public static void main(String[] args) throws IllegalAccessException {
        for (int seed = 0; seed < OBJECTS; seed++) {
            new WildCallsTest(seed).run();
        }
        CHECKS.finish();
    }
}
