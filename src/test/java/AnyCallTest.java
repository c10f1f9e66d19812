import java.util.Arrays;

/**
 * Any arguments in any state: no call throws, each answers as the model does, and an object answers
 * to its 512th call.
 */
public final class AnyCallTest {
    private static final int CALLS = 512;
    private static final int[] ANY = {
        Integer.MIN_VALUE, Integer.MIN_VALUE + 1, -357913942, -65536, -256, -33, -32, -28, -12, -7, -3, -2, -1,
        0, 1, 5, 6, 7, 8, 10, 11, 12, 13, 23, 26, 27, 28, 29, 30, 31, 32, 33, 59, 64, 144, 256, 257, 330, 65536,
        1000000, 357913942, Integer.MAX_VALUE - 1, Integer.MAX_VALUE
    };
    private static final Check CHECK = new Check();

    private static RouteSuite suite;
    private static Model model;
    private static int calls;
    private static int made;

    public static void main(String[] args) {
        renew();
        for (int a : ANY) {
            withOne(a);
            for (int b : ANY) {
                withTwo(a, b);
                for (int c : ANY) {
                    withThree(a, b, c);
                }
            }
        }
        the512thCallIsAnswered();
        callsBeyondThe512thDoNotThrow();
        CHECK.finish();
    }

    /** In turns an empty net, one of some roads with gaps between the numbers, and a full one. */
    private static void renew() {
        suite = new RouteSuite();
        model = new Model();
        calls = 0;
        int roads = 14 * (made % 3);
        made++;
        for (int k = 0; k < roads; k++) {
            int a = k % 12;
            int b = (a + 1 + (k + made) % 11) % 12;
            int length = 1 + 7 * k % 30;
            due(named("add", a, b, length), suite.add(a, b, length), model.add(a, b, length));
        }
        if (roads == 14) {
            due(named("remove", 0), suite.remove(0), model.remove(0));
            due(named("remove", 6), suite.remove(6), model.remove(6));
        }
    }

    private static void makeRoomFor(int more) {
        if (calls + more > CALLS) {
            renew();
        }
    }

    private static void due(String call, long got, long want) {
        calls++;
        CHECK.due(call, got, want);
    }

    private static void withOne(int a) {
        makeRoomFor(7);
        due(named("detour", a), suite.detour(a), model.detour(a));
        due(named("farthest", a), suite.farthest(a), model.farthest(a));
        due(named("remove", a), suite.remove(a), model.remove(a));
        due(named("roads"), suite.roads(), model.roads());
        due(named("widest"), suite.widest(), model.widest());
        due(named("needless"), suite.needless(), model.needless());
        due(named("sound"), suite.sound() ? 1 : 0, 1);
    }

    private static void withTwo(int a, int b) {
        makeRoomFor(4);
        due(named("agree", a, b), suite.agree(a, b) ? 1 : 0, model.agree(a, b) ? 1 : 0);
        due(named("between", a, b), suite.between(a, b), model.between(a, b));
        due(named("around", a, b), suite.around(a, b), model.around(a, b));
        due(named("change", a, b), suite.change(a, b), model.change(a, b));
    }

    private static void withThree(int a, int b, int c) {
        makeRoomFor(3);
        due(named("distance", a, b, c), suite.distance(a, b, c), model.distance(a, b, c));
        due(named("over", a, b, c), suite.over(a, b, c), model.over(a, b, c));
        due(named("add", a, b, c), suite.add(a, b, c), model.add(a, b, c));
    }

    /** "An object is used for at most 512 calls": refused ones count like all others. */
    private static void the512thCallIsAnswered() {
        for (int last = 0; last < 14; last++) {
            RouteSuite x = new RouteSuite();
            Model m = new Model();
            for (int call = 1; call < CALLS; call++) {
                int a = call % 13;
                int b = call * 7 % 12;
                if (call % 4 == 0) {
                    CHECK.due("call " + call + ": remove", x.remove(call * 5 % 29), m.remove(call * 5 % 29));
                } else {
                    CHECK.due("call " + call + ": add", x.add(a, b, call % 32), m.add(a, b, call % 32));
                }
            }
            the512th(last, x, m);
        }
    }

    private static void the512th(int which, RouteSuite x, Model m) {
        switch (which) {
            case 0 -> CHECK.due("the 512th call: add", x.add(0, 11, 1), m.add(0, 11, 1));
            case 1 -> CHECK.due("the 512th call: remove", x.remove(0), m.remove(0));
            case 2 -> CHECK.due("the 512th call: change", x.change(0, 30), m.change(0, 30));
            case 3 -> CHECK.due("the 512th call: roads", x.roads(), m.roads());
            case 4 -> CHECK.due("the 512th call: distance", x.distance(3, 1, 7), m.distance(3, 1, 7));
            case 5 -> CHECK.due("the 512th call: agree", x.agree(2, 5), true);
            case 6 -> CHECK.due("the 512th call: between", x.between(1, 7), m.between(1, 7));
            case 7 -> CHECK.due("the 512th call: around", x.around(1, 60), m.around(1, 60));
            case 8 -> CHECK.due("the 512th call: detour", x.detour(0), m.detour(0));
            case 9 -> CHECK.due("the 512th call: farthest", x.farthest(1), m.farthest(1));
            case 10 -> CHECK.due("the 512th call: widest", x.widest(), m.widest());
            case 11 -> CHECK.due("the 512th call: needless", x.needless(), m.needless());
            case 12 -> CHECK.due("the 512th call: over", x.over(1, 3, 7), m.over(1, 3, 7));
            default -> CHECK.due("the 512th call: sound", x.sound(), true);
        }
    }

    /** "what later calls answer is free": but LANGUAGE.md's rule 7 lets none of them throw. */
    private static void callsBeyondThe512thDoNotThrow() {
        RouteSuite x = new RouteSuite();
        for (int call = 0; call < 20 * CALLS; call++) {
            x.add(call % 12, call * 5 % 11, 1 + call % 30);
            x.remove(call * 3 % 28);
            x.distance(call % 7, call % 12, call * 7 % 12);
            x.sound();
        }
    }

    private static String named(String name, int... arguments) {
        return name + Arrays.toString(arguments) + " with the roads " + Integer.toHexString(model.roads());
    }
}
