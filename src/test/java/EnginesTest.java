/** Each engine between all points, in nets of many shapes. An object is used for one engine. */
public final class EnginesTest {
    private static final int ENGINES = 7;
    private static final Check CHECK = new Check();
    private static long state = 1;

    public static void main(String[] args) {
        for (int shape = 0; shape < 400; shape++) {
            int[][] roads = shape % 4 == 0 ? detourRing(shape) : randomRoads(shape);
            for (int engine = 0; engine < ENGINES; engine++) {
                allPairs(shape, engine, roads);
            }
        }
        CHECK.finish();
    }

    private static int below(int bound) {
        state = state * 6364136223846793005L + 1442695040888963407L;
        return (int) ((state >>> 33) % bound);
    }

    private static int[][] randomRoads(int shape) {
        int points = 2 + shape % 11;
        int[][] roads = new int[1 + below(28)][];
        for (int k = 0; k < roads.length; k++) {
            int a = below(points);
            int b = (a + 1 + below(points - 1)) % points;
            roads[k] = new int[] {a, b, 1 + below(shape % 2 == 0 ? 4 : 30)};
        }
        return roads;
    }

    /** A ring over all points in a mixed order, with roads across it: routes of many roads. */
    private static int[][] detourRing(int shape) {
        int[] order = new int[12];
        for (int i = 0; i < 12; i++) {
            int j = below(i + 1);
            order[i] = order[j];
            order[j] = i;
        }
        int[][] roads = new int[28][];
        for (int k = 0; k < 28; k++) {
            int step = k < 12 ? 1 : 2 + below(9);
            roads[k] = new int[] {order[k % 12], order[(k + step) % 12], k < 12 ? 1 + below(3) : 30 - below(12)};
        }
        return roads;
    }

    private static void allPairs(int shape, int engine, int[][] roads) {
        RouteSuite x = new RouteSuite();
        Model m = new Model();
        for (int[] r : roads) {
            CHECK.due("shape " + shape + ": add", x.add(r[0], r[1], r[2]), m.add(r[0], r[1], r[2]));
        }
        for (int s = 0; s < 12; s++) {
            for (int t = 0; t < 12; t++) {
                CHECK.due("shape " + shape + ": distance(" + engine + ", " + s + ", " + t + ")",
                    x.distance(engine, s, t), m.distance(engine, s, t));
            }
        }
        for (int other = 0; other < ENGINES; other++) {
            CHECK.due("shape " + shape + ": agree(" + engine + ", " + other + ")", x.agree(engine, other), true);
        }
        CHECK.due("shape " + shape + ": sound()", x.sound(), true);
    }
}
