/** Long runs of mixed calls, each answer held against the model's. */
public final class ModelTest {
    private static final int RUNS = 600;
    private static final int CALLS = 512;
    private static final Check CHECK = new Check();
    private static long state;

    public static void main(String[] args) {
        for (int run = 0; run < RUNS; run++) {
            state = run;
            mixedRun(run);
        }
        CHECK.finish();
    }

    /** A fixed row of numbers for each run, so that a failure comes again. */
    private static int below(int bound) {
        state = state * 6364136223846793005L + 1442695040888963407L;
        return (int) ((state >>> 33) % bound);
    }

    /** Mostly a number from 0 on below the bound, now and then one beside it. */
    private static int nearly(int bound) {
        return below(25) == 0 ? (below(2) == 0 ? -1 - below(3) : bound + below(3)) : below(bound);
    }

    private static void mixedRun(int run) {
        RouteSuite x = new RouteSuite();
        Model m = new Model();
        int points = 3 + run % 10;
        int lengths = run % 3 == 0 ? 3 : 30;
        int removals = run / 10 % 4;
        for (int call = 0; call < CALLS; call++) {
            int kind = below(20);
            if (kind < 5 || call < 5) {
                int a = nearly(points);
                int b = nearly(points);
                int length = 1 + nearly(lengths);
                CHECK.due(at(run, call, "add", a, b, length), x.add(a, b, length), m.add(a, b, length));
            } else if (kind < 5 + removals) {
                int k = nearly(28);
                CHECK.due(at(run, call, "remove", k), x.remove(k), m.remove(k));
            } else if (kind < 10) {
                int k = nearly(28);
                int length = 1 + nearly(lengths);
                CHECK.due(at(run, call, "change", k, length), x.change(k, length), m.change(k, length));
            } else {
                question(run, call, x, m);
            }
        }
    }

    private static void question(int run, int call, RouteSuite x, Model m) {
        int s = nearly(12);
        int p = nearly(12);
        int t = nearly(12);
        int engine = nearly(7);
        int other = nearly(7);
        int k = nearly(28);
        int r = below(70) - 5;
        switch (below(14)) {
            case 0 -> CHECK.due(at(run, call, "roads"), x.roads(), m.roads());
            case 1 -> CHECK.due(at(run, call, "agree", engine, other), x.agree(engine, other), m.agree(engine, other));
            case 2 -> CHECK.due(at(run, call, "between", s, t), x.between(s, t), m.between(s, t));
            case 3 -> CHECK.due(at(run, call, "around", s, r), x.around(s, r), m.around(s, r));
            case 4 -> CHECK.due(at(run, call, "detour", k), x.detour(k), m.detour(k));
            case 5 -> CHECK.due(at(run, call, "farthest", s), x.farthest(s), m.farthest(s));
            case 6 -> CHECK.due(at(run, call, "widest"), x.widest(), m.widest());
            case 7 -> CHECK.due(at(run, call, "needless"), x.needless(), m.needless());
            case 8 -> CHECK.due(at(run, call, "over", s, p, t), x.over(s, p, t), m.over(s, p, t));
            case 9 -> CHECK.due(at(run, call, "sound"), x.sound(), true);
            default -> CHECK.due(at(run, call, "distance", engine, s, t),
                x.distance(engine, s, t), m.distance(engine, s, t));
        }
    }

    private static String at(int run, int call, String name, int... arguments) {
        return "run " + run + ", call " + call + ": " + name + java.util.Arrays.toString(arguments);
    }
}
