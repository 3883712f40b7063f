import java.lang.reflect.InvocationTargetException;
import java.lang.reflect.Method;
import java.util.Arrays;
import java.util.HashMap;
import java.util.Map;

/** Random runs of calls, valid and not, whose outcomes must be those of the plain hall. */
public final class RandomRunsTest {
    private static final int RUNS = 900;
    private static final int CALLS = 512;
    private static final int[] ODD = {-1, -2, 6, 7, 8, 9, 63, 64, 99, 100, 300, Integer.MIN_VALUE, Integer.MAX_VALUE};
    // What is asked most of a net that stands; some twice, as they can go wrong in more ways.
    private static final String[] QUESTIONS = {
        "tokens", "can", "graph", "graph", "marking", "marking", "most", "level", "level", "way", "way", "step",
        "step", "rows", "row", "row", "mostByRows", "mostByRows", "rounds", "round", "round", "keeps", "siphons",
        "siphon", "trap", "trap", "isPromising", "goes", "cost", "cost", "cost"};

    private static final Due due = new Due();
    private static final Map<String, Method> OF_HALL = methodsOf(MarkingHall.class);
    private static final Map<String, Method> OF_PLAIN = methodsOf(PlainHall.class);
    private static long seed;

    public static void main(String[] args) throws IllegalAccessException {
        for (int run = 0; run < RUNS; run++) {
            seed = 1000003L * run + 17;
            run(run);
        }
        due.end();
    }

    private static Map<String, Method> methodsOf(Class<?> hall) {
        Map<String, Method> methods = new HashMap<>();
        for (Method method : hall.getDeclaredMethods()) {
            methods.put(method.getName(), method);
        }
        return methods;
    }

    private static int below(int bound) {
        seed = seed * 6364136223846793005L + 1442695040888963407L;
        return (int) ((seed >>> 33) % bound);
    }

    private static void run(int run) throws IllegalAccessException {
        MarkingHall hall = new MarkingHall();
        PlainHall plain = new PlainHall();
        Shape shape = new Shape();
        for (int i = 0; i < CALLS; i++) {
            Call call = shape.next(i);
            String want = call.of(plain, OF_PLAIN);
            due.is("run " + run + ", call " + i + ": " + call, want, call.of(hall, OF_HALL));
            shape.learn(call, want);
        }
    }

    private static final class Call {
        private final String name;
        private final int[] arguments;

        private Call(String name, int... arguments) {
            this.name = name;
            this.arguments = arguments;
        }

        /** The answer, or the class of what the call throws. */
        private String of(Object hall, Map<String, Method> methods) throws IllegalAccessException {
            Object[] boxed = Arrays.stream(arguments).boxed().toArray();
            try {
                Object answer = methods.get(name).invoke(hall, boxed);
                return answer instanceof Boolean ? (Boolean) answer ? "1" : "0" : answer.toString();
            } catch (InvocationTargetException e) {
                return e.getCause().getClass().getName();
            }
        }

        @Override
        public String toString() {
            return name + Arrays.toString(arguments);
        }
    }

    /** What a run's net is like by now, and of what sort its calls are. */
    private static final class Shape {
        private final int mostPlaces = below(12) == 0 ? 0 : 1 + below(6);
        private final int mostFirings = below(12) == 0 ? 0 : 1 + below(8);
        private final int manyArcs = below(4);
        private final int tokenSort = below(6);
        // Tidy nets move tokens round: they have rows, rounds and small graphs.
        private final boolean tidy = below(3) > 0;
        private int places;
        private int firings;

        private Call next(int i) {
            if (i < 14) {
                return i % 2 == 0 && places < mostPlaces ? new Call("place", someTokens())
                    : firings < mostFirings ? new Call("firing") : arc();
            }
            int arcs = i < 50 ? 70 : 2 + 4 * manyArcs;
            if (below(100) < arcs) {
                return arc();
            }
            int rare = below(100);
            if (rare < 4) {
                return new Call("fire", index(firings));
            } else if (rare < 9) {
                return new Call("log", index(firings));
            } else if (rare < 10) {
                return new Call("blank");
            } else if (rare < 11) {
                return below(4) > 0 ? new Call("place", below(3) == 0 ? odd() : someTokens()) : new Call("firing");
            }
            return ask(QUESTIONS[below(QUESTIONS.length)]);
        }

        private Call ask(String name) {
            switch (name) {
                case "tokens": case "most": case "mostByRows": return new Call(name, index(places));
                case "can": case "level": return new Call(name, index(firings));
                case "graph": return new Call(name, below(12) == 0 ? odd() : below(4));
                case "marking": return new Call(name, below(12) == 0 ? odd() : someMarking(), index(places));
                case "way": return new Call(name, index(places), someWish());
                case "step": return new Call(name, index(places), someWish(), below(12) == 0 ? odd() : below(5));
                case "row": return new Call(name, some(3), index(places));
                case "round": return new Call(name, some(4), index(firings));
                case "siphon": return new Call(name, some(3));
                case "trap": return new Call(name, some(1 << places));
                default: return new Call(name);
            }
        }

        private Call arc() {
            int firing = index(firings);
            int place = index(places);
            int kind = below(25) == 0 ? odd() : below(tidy ? 16 : 5) == 0 ? below(5) : below(2);
            int weight = below(20) == 0 ? odd() : below(below(3) == 0 ? 4 : 2);
            if (tidy && kind >= 0 && kind < 2 && places > 0 && below(10) > 0) {
                place = (firing + kind + firing / places * kind & 7) % places;
                weight = below(8) == 0 ? weight : 1;
            }
            return new Call("arc", firing, place, kind, weight);
        }

        private int someTokens() {
            switch (tokenSort) {
                case 0: return below(2);
                case 1: return below(4);
                case 2: return below(100);
                case 3: return 90 + below(10);
                default: return below(2) * (1 + below(3));
            }
        }

        private int someMarking() {
            return below(below(2) == 0 ? 5 : 320);
        }

        private int someWish() {
            return below(12) == 0 ? odd() : below(4) == 0 ? below(100) : 1 + below(1 + below(5));
        }

        private int some(int bound) {
            return below(10) == 0 ? odd() : below(bound);
        }

        private int index(int bound) {
            return bound == 0 || below(15) == 0 ? odd() : below(bound);
        }

        private int odd() {
            return ODD[below(ODD.length)];
        }

        private void learn(Call call, String outcome) {
            if (!outcome.startsWith("java")) {
                places += call.name.equals("place") ? 1 : 0;
                firings += call.name.equals("firing") ? 1 : 0;
            }
        }
    }
}
