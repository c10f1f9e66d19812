/**
 * The document once more, over a plain list of roads and by other means than the class: the
 * distances come from relaxing every road again and again, and the sets from walking over the
 * roads that fit them.
 */
final class Model {
    static final int FAR = 1 << 28;
    private final int[][] roads = new int[28][];

    int add(int a, int b, int length) {
        if (!point(a) || !point(b) || a == b || length < 1 || length > 30) {
            return -1;
        }
        for (int k = 0; k < 28; k++) {
            if (roads[k] == null) {
                roads[k] = new int[] {a, b, length};
                return k;
            }
        }
        return -2;
    }

    int remove(int k) {
        if (!road(k)) {
            return -1;
        }
        int length = roads[k][2];
        roads[k] = null;
        return length;
    }

    int change(int k, int length) {
        if (!road(k) || length < 1 || length > 30) {
            return -1;
        }
        int before = roads[k][2];
        roads[k][2] = length;
        return before;
    }

    int roads() {
        int set = 0;
        for (int k = 0; k < 28; k++) {
            set |= road(k) ? 1 << k : 0;
        }
        return set;
    }

    int distance(int engine, int s, int t) {
        return !point(s) || !point(t) || !engine(engine) ? -1 : orNone(from(s, -1)[t]);
    }

    boolean agree(int engine, int other) {
        return engine(engine) && engine(other);
    }

    int between(int s, int t) {
        if (!point(s) || !point(t)) {
            return -1;
        }
        int[] away = from(s, -1);
        if (away[t] == FAR) {
            return 0;
        }
        int set = 1 << t;
        for (int round = 0; round < 12; round++) {
            for (int[] r : roads) {
                if (r != null && (set >> r[1] & 1) == 1 && away[r[0]] + r[2] == away[r[1]]) {
                    set |= 1 << r[0];
                }
            }
        }
        return set;
    }

    int around(int s, int r) {
        if (!point(s)) {
            return -1;
        }
        int set = 0;
        int[] away = from(s, -1);
        for (int t = 0; t < 12; t++) {
            set |= away[t] != FAR && away[t] <= r ? 1 << t : 0;
        }
        return set;
    }

    int detour(int k) {
        if (!road(k)) {
            return -1;
        }
        int without = from(roads[k][0], k)[roads[k][1]];
        return without == FAR ? -3 : without - from(roads[k][0], -1)[roads[k][1]];
    }

    int farthest(int s) {
        if (!point(s)) {
            return -1;
        }
        int greatest = 0;
        for (int away : from(s, -1)) {
            greatest = away == FAR ? greatest : Math.max(greatest, away);
        }
        return greatest;
    }

    int widest() {
        int greatest = 0;
        for (int s = 0; s < 12; s++) {
            greatest = Math.max(greatest, farthest(s));
        }
        return greatest;
    }

    int needless() {
        int set = roads();
        for (int s = 0; s < 12; s++) {
            int[] away = from(s, -1);
            for (int k = 0; k < 28; k++) {
                int[] r = roads[k];
                if (r != null && away[r[0]] != FAR && away[r[0]] + r[2] == away[r[1]]) {
                    set &= ~(1 << k);
                }
            }
        }
        return set;
    }

    /** Searches in a net of twice the points: 12 + i is point i after p has been seen. */
    int over(int s, int p, int t) {
        if (!point(s) || !point(p) || !point(t)) {
            return -1;
        }
        int[] away = new int[24];
        java.util.Arrays.fill(away, FAR);
        away[s] = 0;
        for (int round = 0; round < 24; round++) {
            away[12 + p] = Math.min(away[12 + p], away[p]);
            for (int[] r : roads) {
                if (r != null) {
                    away[r[1]] = Math.min(away[r[1]], away[r[0]] + r[2]);
                    away[12 + r[1]] = Math.min(away[12 + r[1]], away[12 + r[0]] + r[2]);
                }
            }
        }
        away[12 + p] = Math.min(away[12 + p], away[p]);
        return orNone(away[12 + t]);
    }

    private int[] from(int s, int without) {
        int[] away = new int[12];
        java.util.Arrays.fill(away, FAR);
        away[s] = 0;
        for (int round = 0; round < 12; round++) {
            for (int k = 0; k < 28; k++) {
                int[] r = roads[k];
                if (r != null && k != without) {
                    away[r[1]] = Math.min(away[r[1]], away[r[0]] + r[2]);
                }
            }
        }
        return away;
    }

    private static int orNone(int length) {
        return length >= FAR ? -3 : length;
    }

    private static boolean point(int p) {
        return p >= 0 && p <= 11;
    }

    private static boolean engine(int engine) {
        return engine >= 0 && engine <= 6;
    }

    private boolean road(int k) {
        return k >= 0 && k <= 27 && roads[k] != null;
    }
}
