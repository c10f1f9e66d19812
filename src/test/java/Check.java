/** Counts and prints the answers that are not as due. */
final class Check {
    private int asked = 0;
    private int wrong = 0;

    void due(String call, long got, long want) {
        asked++;
        if (got != want) {
            wrong++;
            if (wrong <= 50) {
                System.out.println(call + " answered " + got + ", due is " + want);
            }
        }
    }

    void due(String call, boolean got, boolean want) {
        due(call, got ? 1L : 0L, want ? 1L : 0L);
    }

    /**
     * Whether two objects hold the same net and answer alike: to see that a refused call changed
     * nothing. Both are asked 232 times and have no roads left afterwards.
     */
    void same(String when, RouteSuite got, RouteSuite want) {
        due(when + ": roads()", got.roads(), want.roads());
        due(when + ": needless()", got.needless(), want.needless());
        due(when + ": widest()", got.widest(), want.widest());
        due(when + ": sound()", got.sound(), true);
        want.sound();
        for (int s = 0; s < 12; s++) {
            for (int t = 0; t < 12; t++) {
                int engine = (s + t) % 7;
                due(when + ": distance(" + engine + ", " + s + ", " + t + ")",
                    got.distance(engine, s, t), want.distance(engine, s, t));
            }
        }
        for (int k = 0; k < 28; k++) {
            due(when + ": detour(" + k + ")", got.detour(k), want.detour(k));
        }
        for (int k = 0; k < 28; k++) {
            due(when + ": remove(" + k + ")", got.remove(k), want.remove(k));
            due(when + ": widest() without the roads up to " + k, got.widest(), want.widest());
        }
    }

    /** Ends the program with 1 if an answer was wrong, or if nothing was asked at all. */
    void finish() {
        System.out.println(asked + " answers, " + wrong + " not as due");
        if (wrong != 0 || asked == 0) {
            System.exit(1);
        }
    }
}
