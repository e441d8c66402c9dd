import java.lang.reflect.Method;
import java.lang.reflect.Modifier;
import java.util.ArrayList;
import java.util.Comparator;
import java.util.List;
import java.util.Random;

/** Any calls with any arguments: none throws, and the same calls on a second object answer the same. */
public final class AnyCallTest {
    private static final int[] EDGES = {Integer.MIN_VALUE, -999, -2, -1, 0, 1, 2, 3, 5, 8, 9, 10, 15, 20, 21, 31, 40, 54, 60,
        99, 600, Integer.MAX_VALUE};
    private static final String[] LINES = {"floor 3 2;", "floor 20 9;", "bar 4 1 0 3;", "bar 0 2 0 9;", "bar 9 4 1 10;",
        "singer 1 9 20;", "singer 4 6 3;", "step 2;", "wall 0;", "wall 1;", "sing 0;", "sing 1;", "skip;", "night;",
        "cold 0;", "well 1;", "dreamt 0;", "calm 1;", "bar", "100", "\0"};

    private AnyCallTest() {
    }

    public static void main(String[] args) throws ReflectiveOperationException {
        List<Method> face = new ArrayList<>();
        for (Method method : LullabyHouse.class.getDeclaredMethods()) {
            if (Modifier.isPublic(method.getModifiers())) {
                face.add(method);
            }
        }
        face.sort(Comparator.comparing(Method::getName));
        for (int seed = 0; seed < 400; seed++) {
            run(face, seed);
        }
        Check.end();
    }

    private static void run(List<Method> face, int seed) throws ReflectiveOperationException {
        Random random = new Random(seed);
        LullabyHouse one = new LullabyHouse();
        LullabyHouse two = new LullabyHouse();
        for (int call = 0; call < 500; call++) {
            if (random.nextInt(12) == 0) {
                String text = text(random);
                int sort = text.startsWith("s") || text.startsWith("n") ? 1 : random.nextInt(3);
                int at = random.nextInt(3) - 1;
                Check.due("a text", Teller.tell(one, sort, at, text), Teller.tell(two, sort, at, text));
                continue;
            }
            Method method = face.get(random.nextInt(face.size()));
            Object[] values = new Object[method.getParameterCount()];
            for (int i = 0; i < values.length; i++) {
                values[i] = method.getParameterTypes()[i] == boolean.class ? (Object) random.nextBoolean() : number(random, i);
            }
            Object first = method.invoke(one, values);
            Check.due(method.getName(), first.equals(method.invoke(two, values)), true);
        }
    }

    private static int number(Random random, int i) {
        if (i == 0 && random.nextInt(4) != 0) {
            return random.nextInt(2);
        }
        return random.nextInt(3) == 0 ? random.nextInt(101) - 1 : EDGES[random.nextInt(EDGES.length)];
    }

    private static String text(Random random) {
        StringBuilder text = new StringBuilder();
        int from = random.nextInt(3);
        int[] bounds = {0, 10, 16, 18};
        if (from == 0) {
            text.append("floor 1 1;floor 2 2;");
        }
        for (int k = random.nextInt(14); k > 0; k--) {
            boolean any = random.nextInt(60) == 0;
            int line = any ? random.nextInt(LINES.length) : bounds[from] + random.nextInt(bounds[from + 1] - bounds[from]);
            text.append(LINES[line]);
        }
        return text.toString();
    }
}
