/**
 * Finds shortest routes in a small net of one-way roads in seven ways, six of which prepare the
 * net first, and all of which find the same.
 *
 * Everything is prepared anew whenever a road comes, goes or changes, so what is prepared always
 * fits the net and a question never has to look whether it does.
 */
public final class RouteSuite {
    public static final int BAD = -1;
    public static final int FULL = -2;
    public static final int NONE = -3;

    private static final int POINTS = 12;
    private static final int PAIRS = 144;
    private static final int ROADS = 28;
    private static final int LONGEST = 30;

    // Stands for "no route". It is above every real distance (at most 11 * 30), and two of them
    // can be added without wrapping, so sums need no case of their own for it.
    private static final int FAR = 1000000;

    private static final int PLAIN = 0;
    private static final int TABLE = 1;
    private static final int MARKS = 2;
    private static final int CLIMB = 3;
    private static final int HUBS = 4;
    private static final int FLAGS = 5;
    private static final int SIGNS = 6;
    private static final int ENGINES = 7;

    // Any points can be the marks and any split can be the regions: another choice would only
    // change the speed. These are spread evenly over the numbers.
    private static final int MARK_COUNT = 3;
    private static final int MARK_GAP = 4;
    private static final int MARK_CELLS = 36;
    private static final int REGIONS = 4;
    private static final int REGION_SIZE = 3;

    private static final int NO_POINT = -1;
    private static final int NO_ROAD = -1;

    // The net: a road whose bit is not in present does not exist, whatever the arrays say of it.
    private int present = 0;
    private final int[] begins = new int[ROADS];
    private final int[] ends = new int[ROADS];
    private final int[] lengths = new int[ROADS];

    // TABLE: the distance from s to t at s * POINTS + t.
    private final int[] table = new int[PAIRS];

    // MARKS: the distances from and to mark m, for point p at m * POINTS + p.
    private final int[] fromMark = new int[MARK_CELLS];
    private final int[] toMark = new int[MARK_CELLS];

    // CLIMB: the length of the best road or shortcut from a to b at a * POINTS + b. A shortcut
    // runs over points lower than both its ends.
    private final int[] climb = new int[PAIRS];

    // HUBS: the distances of the labels, for point p and hub h at p * POINTS + h; FAR where p
    // has no label of h.
    private final int[] toHub = new int[PAIRS];
    private final int[] fromHub = new int[PAIRS];

    // FLAGS: the roads that begin a shortest route to some point of the region.
    private final int[] flagged = new int[REGIONS];

    // SIGNS: the road to take at s on the way to t at s * POINTS + t, or NO_ROAD.
    private final int[] signs = new int[PAIRS];

    // What the searches work on: nothing in here outlives a call.
    private final int[] best = new int[POINTS];
    private final boolean[] settled = new boolean[POINTS];
    private final int[] ascent = new int[POINTS];
    private final int[] descent = new int[POINTS];

    public RouteSuite() {
        prepare();
    }

    // ---- The net ----

    public int add(int a, int b, int length) {
        if (!isPoint(a) || !isPoint(b) || a == b || !isLength(length)) {
            return BAD;
        }
        for (int k = 0; k < ROADS; k++) {
            if (!isRoad(k)) {
                begins[k] = a;
                ends[k] = b;
                lengths[k] = length;
                present |= 1 << k;
                prepare();
                return k;
            }
        }
        return FULL;
    }

    public int remove(int k) {
        if (!isRoad(k)) {
            return BAD;
        }
        present &= ~(1 << k);
        prepare();
        return lengths[k];
    }

    public int change(int k, int length) {
        if (!isRoad(k) || !isLength(length)) {
            return BAD;
        }
        int before = lengths[k];
        lengths[k] = length;
        prepare();
        return before;
    }

    public int roads() {
        return present;
    }

    // ---- Questions ----

    public int distance(int engine, int s, int t) {
        if (!isEngine(engine) || !isPoint(s) || !isPoint(t)) {
            return BAD;
        }
        int found = find(engine, s, t);
        return orNone(found);
    }

    public boolean agree(int engine, int other) {
        if (!isEngine(engine) || !isEngine(other)) {
            return false;
        }
        for (int s = 0; s < POINTS; s++) {
            for (int t = 0; t < POINTS; t++) {
                if (find(engine, s, t) != find(other, s, t)) {
                    return false;
                }
            }
        }
        return true;
    }

    public int between(int s, int t) {
        if (!isPoint(s) || !isPoint(t)) {
            return BAD;
        }
        int whole = table[s * POINTS + t];
        if (whole == FAR) {
            return 0;
        }
        int points = 0;
        for (int p = 0; p < POINTS; p++) {
            if (table[s * POINTS + p] + table[p * POINTS + t] == whole) {
                points |= 1 << p;
            }
        }
        return points;
    }

    public int around(int s, int r) {
        if (!isPoint(s)) {
            return BAD;
        }
        int points = 0;
        for (int t = 0; t < POINTS; t++) {
            int away = table[s * POINTS + t];
            if (away < FAR && away <= r) {
                points |= 1 << t;
            }
        }
        return points;
    }

    public int detour(int k) {
        if (!isRoad(k)) {
            return BAD;
        }
        int a = begins[k];
        int b = ends[k];
        // What is prepared knows road k, so only a plain search can do without it.
        search(a, begins, ends, present & ~(1 << k));
        if (best[b] == FAR) {
            return NONE;
        }
        return best[b] - table[a * POINTS + b];
    }

    public int farthest(int s) {
        if (!isPoint(s)) {
            return BAD;
        }
        return greatestFrom(s);
    }

    public int widest() {
        int greatest = 0;
        for (int s = 0; s < POINTS; s++) {
            int here = greatestFrom(s);
            if (here > greatest) {
                greatest = here;
            }
        }
        return greatest;
    }

    public int needless() {
        int unneeded = 0;
        for (int k = 0; k < ROADS; k++) {
            // Every part of a shortest route is one itself, so a road is on some shortest route
            // exactly when it is one from its own begin to its own end.
            if (isRoad(k) && lengths[k] > table[begins[k] * POINTS + ends[k]]) {
                unneeded |= 1 << k;
            }
        }
        return unneeded;
    }

    public int over(int s, int p, int t) {
        if (!isPoint(s) || !isPoint(p) || !isPoint(t)) {
            return BAD;
        }
        return orNone(table[s * POINTS + p] + table[p * POINTS + t]);
    }

    public boolean sound() {
        // The table comes first: most of the others are held against it.
        return isTableSound() && areMarksSound() && isClimbSound() && areHubsSound()
            && areFlagsSound() && areSignsSound();
    }

    // ---- Small helps ----

    private static boolean isPoint(int p) {
        return p >= 0 && p < POINTS;
    }

    private static boolean isLength(int length) {
        return length >= 1 && length <= LONGEST;
    }

    private static boolean isEngine(int engine) {
        return engine >= 0 && engine < ENGINES;
    }

    private boolean isRoad(int k) {
        return k >= 0 && k < ROADS && (present & (1 << k)) != 0;
    }

    private static int orNone(int found) {
        return found >= FAR ? NONE : found;
    }

    private int greatestFrom(int s) {
        int greatest = 0;
        for (int t = 0; t < POINTS; t++) {
            int away = table[s * POINTS + t];
            if (away < FAR && away > greatest) {
                greatest = away;
            }
        }
        return greatest;
    }

    private int find(int engine, int s, int t) {
        switch (engine) {
            case TABLE:
                return table[s * POINTS + t];
            case MARKS:
                return findByMarks(s, t);
            case CLIMB:
                return findByClimb(s, t);
            case HUBS:
                return findByHubs(toHub, s, fromHub, t);
            case FLAGS:
                return findByFlags(s, t);
            case SIGNS:
                return findBySigns(s, t);
            case PLAIN:
            default:
                return findPlainly(s, t);
        }
    }

    private void prepare() {
        prepareTable();
        prepareMarks();
        prepareClimb();
        prepareHubs();
        prepareFlags();
        prepareSigns();
    }

    // ---- PLAIN: a search by nearest point (Dijkstra), with nothing prepared ----

    private int findPlainly(int s, int t) {
        search(s, begins, ends, present);
        return best[t];
    }

    // Fills best with the distances from start over the allowed roads. With begins and ends
    // handed over in the other order, it fills it with the distances to start.
    private void search(int start, int[] tails, int[] heads, int allowed) {
        startSearch(start);
        for (int round = 0; round < POINTS; round++) {
            int p = nearestOpen();
            if (p == NO_POINT) {
                break;
            }
            settled[p] = true;
            goOn(p, tails, heads, allowed);
        }
    }

    private void startSearch(int start) {
        for (int p = 0; p < POINTS; p++) {
            best[p] = FAR;
            settled[p] = false;
        }
        best[start] = 0;
    }

    private int nearestOpen() {
        int nearest = NO_POINT;
        int least = FAR;
        for (int p = 0; p < POINTS; p++) {
            if (!settled[p] && best[p] < least) {
                nearest = p;
                least = best[p];
            }
        }
        return nearest;
    }

    private void goOn(int p, int[] tails, int[] heads, int allowed) {
        for (int k = 0; k < ROADS; k++) {
            if ((allowed & (1 << k)) != 0 && tails[k] == p) {
                int reached = best[p] + lengths[k];
                if (reached < best[heads[k]]) {
                    best[heads[k]] = reached;
                }
            }
        }
    }

    // Whether road k begins a shortest route to the point that best holds the distances to. Where
    // its end has no route there, the sum is above FAR and equals nothing in best.
    private boolean isOnTheWay(int k) {
        return isRoad(k) && best[begins[k]] == lengths[k] + best[ends[k]];
    }

    // ---- TABLE: the distances between all points (Floyd and Warshall) ----

    private void prepareTable() {
        layRoads(table);
        for (int p = 0; p < POINTS; p++) {
            shortenOver(table, p, 0);
        }
    }

    private void layRoads(int[] grid) {
        for (int cell = 0; cell < PAIRS; cell++) {
            grid[cell] = FAR;
        }
        for (int p = 0; p < POINTS; p++) {
            grid[p * POINTS + p] = 0;
        }
        for (int k = 0; k < ROADS; k++) {
            int cell = begins[k] * POINTS + ends[k];
            if (isRoad(k) && lengths[k] < grid[cell]) {
                grid[cell] = lengths[k];
            }
        }
    }

    // Lets the ways between the points from lowest on lead over p.
    private void shortenOver(int[] grid, int p, int lowest) {
        for (int a = lowest; a < POINTS; a++) {
            for (int b = lowest; b < POINTS; b++) {
                int length = grid[a * POINTS + p] + grid[p * POINTS + b];
                if (length < grid[a * POINTS + b]) {
                    grid[a * POINTS + b] = length;
                }
            }
        }
    }

    // As every length is above 0, only the true distances are 0 from a point to itself and
    // elsewhere the least that the roads to the point make of the others.
    private boolean isTableSound() {
        for (int s = 0; s < POINTS; s++) {
            for (int t = 0; t < POINTS; t++) {
                int due = s == t ? 0 : leastOverLastRoad(s, t);
                if (table[s * POINTS + t] != due) {
                    return false;
                }
            }
        }
        return true;
    }

    private int leastOverLastRoad(int s, int t) {
        int least = FAR;
        for (int k = 0; k < ROADS; k++) {
            if (isRoad(k) && ends[k] == t) {
                int length = table[s * POINTS + begins[k]] + lengths[k];
                if (length < least) {
                    least = length;
                }
            }
        }
        return least;
    }

    // ---- MARKS: a search led by the distances from and to some landmarks (A*, ALT) ----

    private void prepareMarks() {
        for (int m = 0; m < MARK_COUNT; m++) {
            search(m * MARK_GAP, begins, ends, present);
            keepBest(fromMark, m);
            search(m * MARK_GAP, ends, begins, present);
            keepBest(toMark, m);
        }
    }

    private void keepBest(int[] rows, int row) {
        for (int p = 0; p < POINTS; p++) {
            rows[row * POINTS + p] = best[p];
        }
    }

    private int findByMarks(int s, int t) {
        startSearch(s);
        for (int round = 0; round < POINTS; round++) {
            int p = mostPromising(t);
            if (p == NO_POINT || p == t) {
                break;
            }
            settled[p] = true;
            goOn(p, begins, ends, present);
        }
        return best[t];
    }

    private int mostPromising(int t) {
        int found = NO_POINT;
        int least = FAR;
        for (int p = 0; p < POINTS; p++) {
            if (!settled[p] && best[p] < least) {
                int hoped = best[p] + leastToGo(p, t);
                if (hoped < least) {
                    found = p;
                    least = hoped;
                }
            }
        }
        return found;
    }

    // No route from p to t is shorter than this, by the triangles p, t, mark and mark, p, t. The
    // triangles hold with FAR for a distance too, so a mark out of reach needs no case of its own.
    private int leastToGo(int p, int t) {
        int least = 0;
        for (int m = 0; m < MARK_COUNT; m++) {
            int row = m * POINTS;
            int towards = toMark[row + p] - toMark[row + t];
            if (towards > least) {
                least = towards;
            }
            int away = fromMark[row + t] - fromMark[row + p];
            if (away > least) {
                least = away;
            }
        }
        return least;
    }

    private boolean areMarksSound() {
        for (int m = 0; m < MARK_COUNT; m++) {
            int mark = m * MARK_GAP;
            for (int p = 0; p < POINTS; p++) {
                if (fromMark[m * POINTS + p] != table[mark * POINTS + p]
                    || toMark[m * POINTS + p] != table[p * POINTS + mark]) {
                    return false;
                }
            }
        }
        return true;
    }

    // ---- CLIMB: shortcuts over lower points, so that a route climbs and then descends
    //      (a contraction hierarchy with the points in the order of their numbers) ----

    private void prepareClimb() {
        layRoads(climb);
        for (int p = 0; p < POINTS; p++) {
            shortenOver(climb, p, p + 1);
        }
    }

    private int findByClimb(int s, int t) {
        climbFrom(s);
        descendTo(t);
        int least = FAR;
        for (int top = 0; top < POINTS; top++) {
            int length = ascent[top] + descent[top];
            if (length < least) {
                least = length;
            }
        }
        return least;
    }

    private void climbFrom(int s) {
        for (int p = 0; p < POINTS; p++) {
            ascent[p] = FAR;
        }
        ascent[s] = 0;
        for (int p = s; p < POINTS; p++) {
            for (int higher = p + 1; higher < POINTS; higher++) {
                int length = ascent[p] + climb[p * POINTS + higher];
                if (length < ascent[higher]) {
                    ascent[higher] = length;
                }
            }
        }
    }

    private void descendTo(int t) {
        for (int p = 0; p < POINTS; p++) {
            descent[p] = FAR;
        }
        descent[t] = 0;
        for (int p = t; p < POINTS; p++) {
            for (int higher = p + 1; higher < POINTS; higher++) {
                int length = climb[higher * POINTS + p] + descent[p];
                if (length < descent[higher]) {
                    descent[higher] = length;
                }
            }
        }
    }

    private boolean isClimbSound() {
        for (int a = 0; a < POINTS; a++) {
            for (int b = 0; b < POINTS; b++) {
                int overLower = leastOverLower(a, b);
                int byRoad = leastByRoad(a, b);
                int due = byRoad < overLower ? byRoad : overLower;
                if (climb[a * POINTS + b] != due) {
                    return false;
                }
            }
        }
        return true;
    }

    private int leastOverLower(int a, int b) {
        int least = a == b ? 0 : FAR;
        for (int p = 0; p < a && p < b; p++) {
            int length = climb[a * POINTS + p] + climb[p * POINTS + b];
            if (length < least) {
                least = length;
            }
        }
        return least;
    }

    private int leastByRoad(int a, int b) {
        int least = FAR;
        for (int k = 0; k < ROADS; k++) {
            if (isRoad(k) && begins[k] == a && ends[k] == b && lengths[k] < least) {
                least = lengths[k];
            }
        }
        return least;
    }

    // ---- HUBS: every point has labels with its distances to and from some hubs, so that each
    //      shortest route comes through a hub of both its ends (pruned labels) ----

    private void prepareHubs() {
        for (int cell = 0; cell < PAIRS; cell++) {
            toHub[cell] = FAR;
            fromHub[cell] = FAR;
        }
        for (int h = 0; h < POINTS; h++) {
            label(h, begins, ends, toHub, fromHub);
            label(h, ends, begins, fromHub, toHub);
        }
    }

    // Labels with hub h the points for which the hubs before it do not serve as well. The search
    // does not go on from the others: what lies behind them is served as well too.
    private void label(int h, int[] tails, int[] heads, int[] ofHub, int[] ofPoints) {
        startSearch(h);
        for (int round = 0; round < POINTS; round++) {
            int p = nearestOpen();
            if (p == NO_POINT) {
                break;
            }
            settled[p] = true;
            if (findByHubs(ofHub, h, ofPoints, p) > best[p]) {
                ofPoints[p * POINTS + h] = best[p];
                goOn(p, tails, heads, present);
            }
        }
    }

    private int findByHubs(int[] labels, int p, int[] otherLabels, int q) {
        int least = FAR;
        for (int h = 0; h < POINTS; h++) {
            int length = labels[p * POINTS + h] + otherLabels[q * POINTS + h];
            if (length < least) {
                least = length;
            }
        }
        return least;
    }

    private boolean areHubsSound() {
        for (int p = 0; p < POINTS; p++) {
            for (int q = 0; q < POINTS; q++) {
                if (!isLabelSound(toHub[p * POINTS + q], table[p * POINTS + q])
                    || !isLabelSound(fromHub[p * POINTS + q], table[q * POINTS + p])
                    || findByHubs(toHub, p, fromHub, q) != table[p * POINTS + q]) {
                    return false;
                }
            }
        }
        return true;
    }

    private static boolean isLabelSound(int label, int due) {
        return label == FAR || label == due;
    }

    // ---- FLAGS: a plain search over the roads that are flagged for the region of its goal ----

    private void prepareFlags() {
        for (int region = 0; region < REGIONS; region++) {
            flagged[region] = 0;
        }
        for (int t = 0; t < POINTS; t++) {
            search(t, ends, begins, present);
            for (int k = 0; k < ROADS; k++) {
                if (isOnTheWay(k)) {
                    flagged[t / REGION_SIZE] |= 1 << k;
                }
            }
        }
    }

    private int findByFlags(int s, int t) {
        search(s, begins, ends, flagged[t / REGION_SIZE]);
        return best[t];
    }

    private boolean areFlagsSound() {
        for (int region = 0; region < REGIONS; region++) {
            int due = 0;
            for (int k = 0; k < ROADS; k++) {
                if (isRoad(k) && leadsToRegion(k, region)) {
                    due |= 1 << k;
                }
            }
            if (flagged[region] != due) {
                return false;
            }
        }
        return true;
    }

    private boolean leadsToRegion(int k, int region) {
        for (int i = 0; i < REGION_SIZE; i++) {
            if (leadsTo(k, region * REGION_SIZE + i)) {
                return true;
            }
        }
        return false;
    }

    private boolean leadsTo(int k, int t) {
        return table[begins[k] * POINTS + t] == lengths[k] + table[ends[k] * POINTS + t];
    }

    // ---- SIGNS: at every point a signpost to every other, followed road by road ----

    private void prepareSigns() {
        for (int t = 0; t < POINTS; t++) {
            search(t, ends, begins, present);
            for (int s = 0; s < POINTS; s++) {
                signs[s * POINTS + t] = NO_ROAD;
            }
            for (int k = 0; k < ROADS; k++) {
                if (isOnTheWay(k)) {
                    signs[begins[k] * POINTS + t] = k;
                }
            }
        }
    }

    private int findBySigns(int s, int t) {
        int p = s;
        int length = 0;
        for (int step = 0; step < POINTS; step++) {
            if (p == t) {
                return length;
            }
            int k = signs[p * POINTS + t];
            if (!isRoad(k)) {
                return FAR;
            }
            length += lengths[k];
            p = ends[k];
        }
        return FAR;
    }

    private boolean areSignsSound() {
        for (int s = 0; s < POINTS; s++) {
            for (int t = 0; t < POINTS; t++) {
                if (!isSignSound(s, t)) {
                    return false;
                }
            }
        }
        return true;
    }

    private boolean isSignSound(int s, int t) {
        int k = signs[s * POINTS + t];
        if (s == t || table[s * POINTS + t] == FAR) {
            return k == NO_ROAD;
        }
        return isRoad(k) && begins[k] == s && leadsTo(k, t);
    }
}
