import java.lang.reflect.InvocationTargetException;
import java.lang.reflect.Method;
import java.util.Arrays;
import java.util.Map;

/** Each call with each choice of numbers at the edges of what may be told, answered by MostCocks and by PlainCocks. */
public final class EdgeRuns extends Bench {
    /** Three COCKS, three TREES, two LAWS. */
    private static final String THREE = "cock 5 5 0 10 0 0;cock 5 7 9 50 3 7;cock 2 2 3 50 1 7;tree 5 4;tree 5 6;tree 0 0;"
            + "worth 0 7 99;worth 3 0 1;worth 3 7 9";
    private static final String[] LAWS = {"turn 1 if rust<9 and lee=0", "turn off"};

    private static final int[] BIT = upTo(1);
    private static final int[] WAY = upTo(3);
    private static final int[] POINT = upTo(7);
    private static final int[] HOURS = {Integer.MIN_VALUE, -1, 0, 1, 24, 25, Integer.MAX_VALUE};
    private static final int[] SET = {Integer.MIN_VALUE, -1, 0, 1, 6, 7, 8, 4095, 4096, Integer.MAX_VALUE};
    private static final int[] BYTES = {0, 1, Integer.MIN_VALUE, Integer.MAX_VALUE};

    /** Of each call the numbers to choose among, in the order of its parameters. */
    private static final Map<String, int[][]> EDGES = Map.ofEntries(
            Map.entry("feed", new int[][] {BYTES, BYTES, BYTES, BYTES, BYTES}),
            Map.entry("end", new int[][] {{Integer.MIN_VALUE, -1, 6, 7, 5, 400, 401, 0, Integer.MAX_VALUE}}),
            Map.entry("valley", new int[][] {}),
            Map.entry("law", new int[][] {}),
            Map.entry("cock", new int[][] {upTo(2), upTo(6)}),
            Map.entry("tree", new int[][] {upTo(2), upTo(2)}),
            Map.entry("worth", new int[][] {upTo(3), POINT}),
            Map.entry("lee", new int[][] {upTo(2), POINT}),
            Map.entry("blow", new int[][] {upTo(1), POINT, HOURS}),
            Map.entry("bend", new int[][] {upTo(2), POINT}),
            Map.entry("oil", new int[][] {upTo(2)}),
            Map.entry("rusts", new int[][] {upTo(2), upTo(9)}),
            Map.entry("fell", new int[][] {upTo(2), {0, 1}}),
            Map.entry("morning", new int[][] {}),
            Map.entry("vote", new int[][] {WAY}),
            Map.entry("says", new int[][] {POINT}),
            Map.entry("cheapest", new int[][] {WAY, POINT, SET, BIT}),
            Map.entry("answer", new int[][] {WAY, POINT, SET, POINT, SET, BIT}),
            Map.entry("bought", new int[][] {WAY, upTo(12)}),
            Map.entry("swings", new int[][] {WAY, upTo(2), POINT, POINT}),
            Map.entry("explained", new int[][] {upTo(1), HOURS, upTo(2)}),
            Map.entry("trueWind", new int[][] {upTo(1), HOURS, upTo(2)}),
            Map.entry("after", new int[][] {upTo(1), POINT, HOURS, WAY, BIT}),
            Map.entry("felled", new int[][] {upTo(1), POINT, HOURS, WAY}),
            Map.entry("oiled", new int[][] {upTo(1), POINT, HOURS, WAY, BIT}),
            Map.entry("bestPoint", new int[][] {WAY, upTo(3), upTo(9999), BIT}),
            Map.entry("seed", new int[][] {upTo(1)}),
            Map.entry("lot", new int[][] {}),
            Map.entry("years", new int[][] {upTo(1), {-1, 0, 1, 366, 367}, {0, 1, 24, 25}, WAY, {-1, 0, 3, 4, 7, 8}, {-1, 0, 1, 2, 3}}),
            Map.entry("count", new int[][] {upTo(6)}),
            Map.entry("image", new int[][] {upTo(3)}),
            Map.entry("back", new int[][] {upTo(3)}));

    /** The calls of one object must stay below 512. */
    private static final int CALLS = 400;

    private static MostCocks x;
    private static PlainCocks plain;

    private static int[] upTo(int most) {
        return new int[] {Integer.MIN_VALUE, -1, 0, most, most + 1, Integer.MAX_VALUE};
    }

    private static void feedBoth(String text) {
        for (int[] n : fives(text)) {
            due("feed", x.feed(n[0], n[1], n[2], n[3], n[4]), plain.feed(n[0], n[1], n[2], n[3], n[4]));
        }
        due("end", x.end(text.length()), plain.end(text.length()));
    }

    private static void begin(boolean valley, boolean laws) {
        x = new MostCocks();
        plain = new PlainCocks();
        for (int i = 0; laws && i < LAWS.length; i++) {
            feedBoth(LAWS[i]);
            due("law", x.law(), plain.law());
        }
        if (valley) {
            feedBoth(THREE);
            due("valley", x.valley(), plain.valley());
            due("image", x.image(3), plain.image(3));
            due("bend", x.bend(1, 3), plain.bend(1, 3));
        }
        feedBoth("turn 1");
    }

    private static int answer(Method method, Object of, Object[] told) throws ReflectiveOperationException {
        Object answer = method.invoke(of, told);
        return answer instanceof Boolean is ? is ? 1 : 0 : (Integer) answer;
    }

    /** Goes through all choices as a counter goes through its numbers. */
    private static void edges(Method method, boolean valley, boolean laws) throws ReflectiveOperationException {
        int[][] edges = EDGES.get(method.getName());
        Class<?>[] types = method.getParameterTypes();
        Method other = PlainCocks.class.getDeclaredMethod(method.getName(), types);
        other.setAccessible(true);
        int choices = 1;
        for (int[] edge : edges) choices *= edge.length;
        for (int choice = 0; choice < choices; choice++) {
            if (choice % CALLS == 0) begin(valley, laws);
            Object[] told = new Object[types.length];
            int rest = choice;
            for (int i = 0; i < told.length; i++) {
                int number = edges[i][rest % edges[i].length];
                rest /= edges[i].length;
                told[i] = types[i] == boolean.class ? (Object) (number != 0) : (Object) number;
            }
            try {
                due(method.getName() + Arrays.toString(told), answer(method, x, told), answer(other, plain, told));
            } catch (InvocationTargetException thrown) {
                fails(method.getName() + Arrays.toString(told) + " has thrown " + thrown.getCause());
            }
        }
    }

    public static void main(String[] args) throws Exception {
        promise(0);
        for (Method method : MostCocks.class.getMethods()) {
            if (method.getDeclaringClass() != MostCocks.class) continue;
            if (!EDGES.containsKey(method.getName())) fails("no edges of " + method.getName());
            else for (int i = 0; i < 4; i++) edges(method, i / 2 == 1, i % 2 == 1);
        }
        end("EdgeRuns");
    }
}
