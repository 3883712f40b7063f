/** Random runs of calls, valid and not, whose outcomes must be those of the plain hall. */
public final class RandomRunsTest {
    private static final int RUNS = 1500;
    private static final int CALLS = 512;
    private static final int[] ODD = {-1, -2, 6, 7, 8, 9, 63, 64, 99, 100, 300, Integer.MIN_VALUE, Integer.MAX_VALUE};

    private static final Due due = new Due();
    private static long seed;
    private static int outcomes;
    private static int thrown;
    private static int none;

    public static void main(String[] args) {
        for (int run = 0; run < RUNS; run++) {
            seed = 1000003L * run + 17;
            run(run);
        }
        System.out.println(outcomes + " calls, " + thrown + " thrown, " + none + " NONE");
        due.is("runs reach all kinds of outcomes", true, thrown > 1000 && none > 1000 && outcomes > 100000);
        due.end();
    }

    private static int below(int bound) {
        seed = seed * 6364136223846793005L + 1442695040888963407L;
        return (int) ((seed >>> 33) % bound);
    }

    private static void run(int run) {
        MarkingHall hall = new MarkingHall();
        PlainHall plain = new PlainHall();
        Shape shape = new Shape();
        for (int i = 0; i < CALLS; i++) {
            Call call = shape.next(i);
            String got = Due.outcome(() -> call.ask(hall));
            String want = Due.outcome(() -> call.ask(plain));
            shape.learn(call, want);
            outcomes++;
            thrown += want.startsWith("java") ? 1 : 0;
            none += want.equals("-1") ? 1 : 0;
            due.is("run " + run + ", call " + i + ": " + call, want, got);
        }
    }

    /** What a run's net is like by now, and of what sort its calls are. */
    private static final class Shape {
        private final int mostPlaces = below(7);
        private final int mostFirings = below(9);
        private final int manyArcs = below(4);
        private final int tokenSort = below(4);
        private final boolean sparse = below(2) == 0;
        private int places;
        private int firings;

        private Call next(int i) {
            if (i < 14) {
                return i % 2 == 0 && places < mostPlaces ? new Call(0, someTokens(), 0, 0, 0)
                    : firings < mostFirings ? new Call(1, 0, 0, 0, 0) : arc();
            }
            int arcs = i < 40 ? 60 : 6 + 6 * manyArcs;
            if (below(100) < arcs) {
                return arc();
            }
            if (below(100) < 8) {
                return fireOrLog();
            }
            return ask(below(27));
        }

        private Call ask(int name) {
            if (name == 0 && below(4) > 0) {
                return ask(below(27));
            }
            if (name == 23 && below(3) > 0) {
                return ask(26);
            }
            return new Call(name, first(name), second(name), name == 2 ? someKind() : index(8), below(4));
        }

        private Call fireOrLog() {
            return new Call(below(2) == 0 ? 5 : 22, index(firings), 0, 0, 0);
        }

        private int first(int name) {
            switch (name) {
                case 0: return below(10) == 0 ? odd() : someTokens();
                case 2: case 4: case 5: case 9: case 22: return index(firings);
                case 6: return below(12) == 0 ? odd() : below(4);
                case 7: return below(12) == 0 ? odd() : below(below(2) == 0 ? 5 : 320);
                case 13: case 16: case 19: return below(8) == 0 ? odd() : below(4);
                case 20: return below(8) == 0 ? odd() : below(1 << places);
                default: return index(places);
            }
        }

        private int second(int name) {
            switch (name) {
                case 10: case 11: return below(12) == 0 ? odd() : below(below(3) == 0 ? 100 : 8);
                case 16: return index(firings);
                default: return index(places);
            }
        }

        private Call arc() {
            int kind = someKind();
            int weight = below(20) == 0 ? odd() : kind == 4 ? below(2) : below(below(3) == 0 ? 4 : 2);
            if (sparse && kind > 1 && below(3) > 0) {
                kind = below(2);
            }
            return new Call(2, index(firings), index(places), kind, weight);
        }

        private int someKind() {
            return below(25) == 0 ? odd() : below(3) == 0 ? below(5) : below(2);
        }

        private int someTokens() {
            return tokenSort == 3 ? 90 + below(10) : tokenSort == 2 ? below(100) : below(2 + 2 * tokenSort);
        }

        private int index(int bound) {
            return bound == 0 || below(15) == 0 ? odd() : below(bound);
        }

        private int odd() {
            return ODD[below(ODD.length)];
        }

        private void learn(Call call, String outcome) {
            if (!outcome.startsWith("java")) {
                places += call.name == 0 ? 1 : 0;
                firings += call.name == 1 ? 1 : 0;
            }
        }
    }

    private static final class Call {
        private static final String[] NAMES = {
            "place", "firing", "arc", "tokens", "can", "fire", "graph", "marking", "most", "level", "way", "step",
            "rows", "row", "mostByRows", "rounds", "round", "keeps", "siphons", "siphon", "trap", "isPromising",
            "log", "blank", "goes", "cost", "cost"};
        private final int name;
        private final int a;
        private final int b;
        private final int c;
        private final int d;

        private Call(int name, int a, int b, int c, int d) {
            this.name = name == 19 || name == 13 || name == 16 || name < 27 ? name : 25;
            this.a = a;
            this.b = b;
            this.c = c;
            this.d = d;
        }

        private int ask(MarkingHall hall) {
            switch (name) {
                case 0: return hall.place(a);
                case 1: return hall.firing();
                case 2: return hall.arc(a, b, c, d);
                case 3: return hall.tokens(a);
                case 4: return hall.can(a) ? 1 : 0;
                case 5: return hall.fire(a);
                case 6: return hall.graph(a);
                case 7: return hall.marking(a, b);
                case 8: return hall.most(a);
                case 9: return hall.level(a);
                case 10: return hall.way(a, b);
                case 11: return hall.step(a, b, c);
                case 12: return hall.rows();
                case 13: return hall.row(a, b);
                case 14: return hall.mostByRows(a);
                case 15: return hall.rounds();
                case 16: return hall.round(a, b);
                case 17: return hall.keeps() ? 1 : 0;
                case 18: return hall.siphons();
                case 19: return hall.siphon(a);
                case 20: return hall.trap(a);
                case 21: return hall.isPromising() ? 1 : 0;
                case 22: return hall.log(a);
                case 23: return hall.blank();
                case 24: return hall.goes();
                default: return hall.cost();
            }
        }

        private int ask(PlainHall hall) {
            switch (name) {
                case 0: return hall.place(a);
                case 1: return hall.firing();
                case 2: return hall.arc(a, b, c, d);
                case 3: return hall.tokens(a);
                case 4: return hall.can(a);
                case 5: return hall.fire(a);
                case 6: return hall.graph(a);
                case 7: return hall.marking(a, b);
                case 8: return hall.most(a);
                case 9: return hall.level(a);
                case 10: return hall.way(a, b);
                case 11: return hall.step(a, b, c);
                case 12: return hall.rows();
                case 13: return hall.row(a, b);
                case 14: return hall.mostByRows(a);
                case 15: return hall.rounds();
                case 16: return hall.round(a, b);
                case 17: return hall.keeps();
                case 18: return hall.siphons();
                case 19: return hall.siphon(a);
                case 20: return hall.trap(a);
                case 21: return hall.isPromising();
                case 22: return hall.log(a);
                case 23: return hall.blank();
                case 24: return hall.goes();
                default: return hall.cost();
            }
        }

        @Override
        public String toString() {
            return NAMES[name] + " of " + a + ", " + b + ", " + c + ", " + d;
        }
    }
}
