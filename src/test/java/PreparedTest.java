import java.lang.reflect.Field;

/**
 * Spoils what is prepared, cell by cell, from outside: sound() must see each one, agree() must see
 * each distance that differs, and an engine must be the only one to use what is prepared for it.
 */
public final class PreparedTest {
    private static final String[][] PREPARED = {
        {}, {"table"}, {"fromMark", "toMark"}, {"climb"}, {"toHub", "fromHub"}, {"flagged"}, {"signs"}
    };
    private static final Check CHECK = new Check();

    public static void main(String[] args) throws ReflectiveOperationException {
        for (int engine = 1; engine < PREPARED.length; engine++) {
            for (String name : PREPARED[engine]) {
                everyCellCounts(name);
            }
            onlyItsEngineSees(engine);
        }
        agreeLooksAtEveryPair();
        anOldPreparationShows();
        aTableShowsThatMissesAShorterRoad();
        CHECK.finish();
    }

    /** A ring of all points with some roads across, and point 11 with no way to it. */
    private static RouteSuite net() {
        RouteSuite x = new RouteSuite();
        for (int p = 0; p < 11; p++) {
            x.add(p, (p + 1) % 11, 2 + p % 3);
            x.add(p, (p + 4) % 11, 9);
        }
        x.add(11, 0, 5);
        return x;
    }

    private static int[] cells(RouteSuite x, String name) throws ReflectiveOperationException {
        Field field = RouteSuite.class.getDeclaredField(name);
        field.setAccessible(true);
        return (int[]) field.get(x);
    }

    private static void everyCellCounts(String name) throws ReflectiveOperationException {
        int count = cells(net(), name).length;
        for (int i = 0; i < count; i++) {
            RouteSuite x = net();
            int[] cells = cells(x, name);
            int right = cells[i];
            int[] wrongs = name.equals("signs")
                ? new int[] {right < 0 ? 0 : -1, -2, 28}
                : new int[] {right + 1, right - 1};
            for (int wrong : wrongs) {
                cells[i] = wrong;
                CHECK.due("sound() with " + wrong + " for " + right + " at " + name + " " + i, x.sound(), false);
            }
            cells[i] = right;
            CHECK.due("sound() with " + name + " " + i + " put right", x.sound(), true);
        }
    }

    private static void onlyItsEngineSees(int engine) throws ReflectiveOperationException {
        RouteSuite x = net();
        for (String name : PREPARED[engine]) {
            int[] cells = cells(x, name);
            for (int i = 0; i < cells.length; i++) {
                cells[i] = name.equals("flagged") ? 0 : name.equals("signs") ? -1 : (i * 7 + cells[i] * 5) % 300;
            }
        }
        for (int other = 0; other < PREPARED.length; other++) {
            CHECK.due("agree(" + engine + ", " + other + ") with " + engine + " spoilt",
                x.agree(engine, other), other == engine);
            CHECK.due("agree(" + other + ", " + engine + ") with " + engine + " spoilt",
                x.agree(other, engine), other == engine);
            CHECK.due("agree(" + other + ", 0) with " + engine + " spoilt", x.agree(other, 0), other != engine);
        }
    }

    private static void agreeLooksAtEveryPair() throws ReflectiveOperationException {
        RouteSuite x = net();
        int[] table = cells(x, "table");
        for (int i = 0; i < table.length; i++) {
            table[i]++;
            CHECK.due("agree(0, 1) with the pair " + i + " spoilt", x.agree(0, 1), false);
            CHECK.due("agree(1, 0) with the pair " + i + " spoilt", x.agree(1, 0), false);
            table[i]--;
        }
        CHECK.due("agree(0, 1) with all put right", x.agree(0, 1), true);
    }

    /** With a length changed behind the back of the object, only the search on the net itself is right. */
    private static void anOldPreparationShows() throws ReflectiveOperationException {
        RouteSuite x = net();
        cells(x, "lengths")[0] = 1;
        CHECK.due("sound() with an old preparation", x.sound(), false);
        CHECK.due("agree(0, 1) with an old preparation", x.agree(0, 1), false);
    }

    /**
     * All that is held against the table fits it here, and the shortcuts fit the net: only who holds
     * the table itself against the net can see that it misses the shorter road.
     */
    private static void aTableShowsThatMissesAShorterRoad() throws ReflectiveOperationException {
        for (int a = 0; a < 12; a++) {
            for (int b = 0; b < 12; b++) {
                if (a != b) {
                    RouteSuite x = new RouteSuite();
                    x.add(a, b, 5);
                    x.add(a, b, 9);
                    cells(x, "lengths")[1] = 3;
                    cells(x, "climb")[a * 12 + b] = 3;
                    CHECK.due("sound() with a shorter road missed from " + a + " to " + b, x.sound(), false);
                }
            }
        }
    }
}
