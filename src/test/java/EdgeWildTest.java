import java.lang.reflect.InvocationTargetException;
import java.lang.reflect.Method;
import java.lang.reflect.Modifier;
import java.util.List;
import java.util.function.Supplier;

/** No call ever throws, whatever it is given and whatever stands: each method with each row of edge numbers. */
public final class EdgeWildTest {
    private static final int[] NUMBERS = {Edge.MIN, -1, 0, 1, 6, 60, Edge.MAX};
    private static final int CALLS = 400;
    private static int thrown = 0;
    private static int calls = 0;

    public static void main(String[] args) throws Exception {
        String most = "night hours 12 law 3 odds 10;" + "pew add 4;".repeat(7) + "aisle 0 1;aisle 1 2;aisle 2 3;aisle 3 4;aisle 4 5;aisle 5 6;"
            + "aisle 0 6;light 0 1 2 3 4 1 2;light 6 1;draught 6 at 11;draught 0 at 0;";
        List<Supplier<TaperTalk>> states = List.of(TaperTalk::new, () -> Telling.told(Edge.EMPTY), Edge::busy, () -> Telling.told(most));
        for (Supplier<TaperTalk> state : states) {
            for (Method m : TaperTalk.class.getDeclaredMethods()) if (Modifier.isPublic(m.getModifiers())) everyRow(m, state);
        }
        Edge.due(1, "exceptions in " + calls + " calls", thrown, 0);
        Edge.end("EdgeWildTest");
    }

    private static void everyRow(Method m, Supplier<TaperTalk> state) throws Exception {
        int rows = (int) Math.pow(NUMBERS.length, m.getParameterCount());
        TaperTalk x = null;
        for (int row = 0; row < rows; row++) {
            if (row % CALLS == 0) x = state.get();
            Object[] given = new Object[m.getParameterCount()];
            int rest = row;
            for (int i = 0; i < given.length; i++) {
                int number = NUMBERS[rest % NUMBERS.length];
                given[i] = m.getParameterTypes()[i] == long.class ? (Object) (number * 4294967297L) : (Object) number;
                rest /= NUMBERS.length;
            }
            call(m, x, given);
        }
    }

    private static void call(Method m, TaperTalk x, Object[] given) throws Exception {
        calls++;
        try {
            m.invoke(x, given);
        } catch (InvocationTargetException e) {
            thrown++;
            System.out.println(m.getName() + java.util.Arrays.toString(given) + " threw " + e.getCause());
        }
    }
}
