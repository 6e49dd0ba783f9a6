import java.lang.reflect.InvocationTargetException;
import java.lang.reflect.Method;
import java.lang.reflect.Modifier;
import java.util.ArrayList;
import java.util.Comparator;
import java.util.List;
import java.util.Random;

/** No call throws, whatever its arguments, in whatever state the calls ahead of it have left the object. */
public final class NoThrowTest {
    private static final int RUNS = 1500, CALLS = 512;
    private static final int[] ODD = {Integer.MIN_VALUE, Integer.MAX_VALUE, -1, 8, 9, 10, 11, 23, 24, 32, 33, 40, 41, 99,
        255, 256, 257, 511, 512, 723, 99999, 100000, -2147483600, 2147483640};
    private static final String PIECES = "takes saws minds or and not more sort hour thing many kind ();+-*<= 1 99 9999 12345";

    public static void main(String[] args) throws IllegalAccessException {
        List<Method> face = new ArrayList<>();
        for (Method m : LockedToAnothers.class.getDeclaredMethods()) {
            if (Modifier.isPublic(m.getModifiers())) {
                face.add(m);
            }
        }
        face.sort(Comparator.comparing(Method::getName));
        int wrong = 0;
        for (int run = 0; run < RUNS && wrong < 5; run++) {
            wrong += thrownIn(new Random(run), face);
        }
        System.out.println(wrong == 0 ? "no call throws" : wrong + " runs throw");
        if (wrong != 0) {
            System.exit(1);
        }
    }

    private static int thrownIn(Random random, List<Method> face) throws IllegalAccessException {
        LockedToAnothers x = new LockedToAnothers();
        List<String> told = new ArrayList<>();
        int odd = random.nextInt(5);
        for (int i = 0; i < CALLS; i++) {
            Method m = face.get(random.nextInt(face.size()));
            Object[] args = new Object[m.getParameterCount()];
            for (int a = 0; a < args.length; a++) {
                args[a] = m.getName().equals("feed") && a > 0 ? PIECES.charAt(random.nextInt(PIECES.length())) : number(random, odd);
            }
            told.add(m.getName() + java.util.Arrays.toString(args));
            try {
                m.invoke(x, args);
            } catch (InvocationTargetException thrown) {
                System.out.println(thrown.getCause() + " thrown by the last of " + told);
                return 1;
            }
        }
        return 0;
    }

    private static int number(Random random, int odd) {
        if (random.nextInt(6) >= odd) {
            return random.nextInt(4);
        }
        return random.nextInt(8) == 0 ? random.nextInt() : random.nextInt(2) == 0 ? ODD[random.nextInt(ODD.length)] : random.nextInt(12);
    }
}
