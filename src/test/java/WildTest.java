import java.lang.reflect.InvocationTargetException;
import java.lang.reflect.Method;
import java.util.Arrays;
import java.util.Comparator;
import java.util.NoSuchElementException;
import java.util.Random;

/** Calls with any arguments in any state: nothing is thrown but what look() must throw. */
public final class WildTest {
    private static final int[] ODD = {Integer.MIN_VALUE, -1000, -999, -2, -1, 0, 0, 0, 1, 1, 1, 2, 2, 3, 4, 5, 6, 7, 8,
        12, 13, 20, 21, 30, 31, 40, 48, 60, 61, 240, 241, 300, 301, 342, 800, 999, 1000, 2401, 16806, 16807,
        1 << 25, Integer.MAX_VALUE};

    public static void main(String[] args) throws IllegalAccessException {
        Method[] methods = FloatTowns.class.getMethods();
        Arrays.sort(methods, Comparator.comparing(Method::getName));
        for (int seed = 0; seed < 400; seed++) {
            Random random = new Random(seed);
            Texts texts = new Texts(random, 2 + random.nextInt(11));
            FloatTowns x = new FloatTowns();
            for (int call = 0; call < 512; call++) {
                if (random.nextInt(40) == 0) {
                    Check.tell(x, random.nextInt(4) == 0 ? texts.changed(texts.sound()) : texts.sound());
                }
                Method m = methods[random.nextInt(methods.length)];
                if (m.getDeclaringClass() == FloatTowns.class && !m.getName().equals("text")) {
                    one(x, m, random);
                }
            }
        }
        Check.end("WildTest");
    }

    private static void one(FloatTowns x, Method m, Random random) throws IllegalAccessException {
        Object[] given = new Object[m.getParameterCount()];
        for (int i = 0; i < given.length; i++) {
            boolean bit = m.getParameterTypes()[i] == boolean.class;
            given[i] = bit ? (Object) random.nextBoolean() : (Object) ODD[random.nextInt(ODD.length)];
        }
        String thrown = "";
        try {
            m.invoke(x, given);
        } catch (InvocationTargetException e) {
            thrown = e.getCause().getClass().getName();
        }
        String due = "";
        if (m.getName().equals("look")) {
            int sort = (Integer) given[0];
            int what = (Integer) given[1];
            due = sort < 0 || sort >= x.count(1) ? IndexOutOfBoundsException.class.getName()
                : what < 0 || what > 3 ? NoSuchElementException.class.getName() : "";
        }
        Check.due(m.getName() + Arrays.toString(given) + " throws " + thrown, thrown.equals(due), true);
    }
}
