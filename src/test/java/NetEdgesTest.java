/**
 * The terms and the promises 1 to 5: each sentence of the document that names a boundary case has
 * a test of its own here, in the order of the document, and each test has fresh objects.
 */
public final class NetEdgesTest {
    private static final int BAD = RouteSuite.BAD;
    private static final int FULL = RouteSuite.FULL;
    private static final int NONE = RouteSuite.NONE;
    private static final int ALL_ROADS = 0xFFFFFFF;
    private static final Check CHECK = new Check();

    public static void main(String[] args) {
        pointsAreZeroToEleven();
        thereAreAtMost28Roads();
        lengthsAreOneToThirty();
        severalRoadsMayGoFromOnePointToAnother();
        aRoadIsOneWay();
        bitIStandsForRoadI();
        bitIStandsForPointI();
        newHasNoRoads();
        addTakesTheLeastFreeNumber();
        addRefusesATooSmallBegin();
        addRefusesATooLargeBegin();
        addRefusesATooSmallEnd();
        addRefusesATooLargeEnd();
        addRefusesTheSamePointTwice();
        addRefusesATooSmallLength();
        addRefusesATooLargeLength();
        addRefusesThe29thRoad();
        addAnswersBadBeforeFull();
        aRefusedAddChangesNothing();
        anAddToAFullNetChangesNothing();
        removeAnswersTheLength();
        removeAnswersTheLengthOfAChangedRoad();
        removeRefusesATooSmallNumber();
        removeRefusesATooLargeNumber();
        removeRefusesAFreeNumber();
        removeRefusesARoadTakenAway();
        removeEmptiesAFullNet();
        aRefusedRemoveChangesNothing();
        changeTakesTheShortestAndTheLongest();
        changeRefusesATooSmallNumber();
        changeRefusesATooLargeNumber();
        changeRefusesAFreeNumber();
        changeRefusesARoadTakenAway();
        changeRefusesATooSmallLength();
        changeRefusesATooLargeLength();
        changeRefusesBothWrong();
        changeToTheSameLengthChangesNothing();
        aRefusedChangeChangesNothing();
        roadsOfAnEmptyNet();
        roadsOfAFullNet();
        CHECK.finish();
    }

    // ---- Terms ----

    /** "There are POINTS 0 .. 11": each pair of two of them can have a road. */
    private static void pointsAreZeroToEleven() {
        for (int a = 0; a < 12; a++) {
            RouteSuite x = new RouteSuite();
            for (int b = 0; b < 12; b++) {
                if (a != b) {
                    CHECK.due("add(" + a + ", " + b + ", 9)", x.add(a, b, 9), 0);
                    CHECK.due("distance from " + a + " to " + b, x.distance(0, a, b), 9);
                    CHECK.due("remove the road from " + a + " to " + b, x.remove(0), 9);
                }
            }
        }
    }

    /** "at most 28 ROADS, with numbers 0 .. 27" */
    private static void thereAreAtMost28Roads() {
        RouteSuite x = new RouteSuite();
        for (int k = 0; k < 28; k++) {
            CHECK.due("add number " + k, x.add(k % 11, 11, 30), k);
        }
        CHECK.due("the last number is a road's", x.change(27, 1), 30);
        CHECK.due("the first number is a road's", x.change(0, 1), 30);
    }

    /** "a LENGTH (1 .. 30)" */
    private static void lengthsAreOneToThirty() {
        RouteSuite x = new RouteSuite();
        for (int length = 1; length <= 30; length++) {
            CHECK.due("add(0, 1, " + length + ")", x.add(0, 1, length), 0);
            CHECK.due("distance with length " + length, x.distance(length % 7, 0, 1), length);
            CHECK.due("change(0, " + (31 - length) + ")", x.change(0, 31 - length), length);
            CHECK.due("distance with length " + (31 - length), x.distance(length % 7, 0, 1), 31 - length);
            CHECK.due("remove(0)", x.remove(0), 31 - length);
        }
    }

    /** "Several roads may go from one point to another." */
    private static void severalRoadsMayGoFromOnePointToAnother() {
        RouteSuite x = new RouteSuite();
        for (int k = 0; k < 28; k++) {
            CHECK.due("add beside " + k + " others", x.add(4, 7, k + 2), k);
        }
        for (int k = 0; k < 28; k++) {
            for (int engine = 0; engine < 7; engine++) {
                CHECK.due("engine " + engine + " takes the shortest", x.distance(engine, 4, 7), k + 2);
            }
            CHECK.due("remove the shortest", x.remove(k), k + 2);
        }
        CHECK.due("without the last of them", x.distance(0, 4, 7), NONE);
    }

    /** "a road goes from a point to another one" */
    private static void aRoadIsOneWay() {
        for (int engine = 0; engine < 7; engine++) {
            RouteSuite x = new RouteSuite();
            x.add(0, 11, 1);
            CHECK.due("engine " + engine + " along the road", x.distance(engine, 0, 11), 1);
            CHECK.due("engine " + engine + " against the road", x.distance(engine, 11, 0), NONE);
        }
    }

    /** "Sets of points or roads are written with bit i for number i." */
    private static void bitIStandsForRoadI() {
        for (int k = 0; k < 28; k++) {
            RouteSuite x = Nets.full();
            for (int other = 0; other < 28; other++) {
                if (other != k) {
                    x.remove(other);
                }
            }
            CHECK.due("roads() with road " + k + " alone", x.roads(), 1 << k);
        }
    }

    /** "Sets of points or roads are written with bit i for number i." */
    private static void bitIStandsForPointI() {
        RouteSuite x = new RouteSuite();
        for (int p = 0; p < 12; p++) {
            CHECK.due("between(" + p + ", " + p + ")", x.between(p, p), 1 << p);
            CHECK.due("around(" + p + ", 0)", x.around(p, 0), 1 << p);
        }
    }

    // ---- Promise 1 ----

    /** "No roads." */
    private static void newHasNoRoads() {
        RouteSuite x = new RouteSuite();
        CHECK.due("new: roads()", x.roads(), 0);
        for (int k = 0; k < 28; k++) {
            CHECK.due("new: detour(" + k + ")", x.detour(k), BAD);
            CHECK.due("new: change(" + k + ", 1)", x.change(k, 1), BAD);
            CHECK.due("new: remove(" + k + ")", x.remove(k), BAD);
        }
        for (int s = 0; s < 12; s++) {
            for (int t = 0; t < 12; t++) {
                CHECK.due("new: distance from " + s + " to " + t, x.distance((s + t) % 7, s, t), s == t ? 0 : NONE);
            }
        }
        CHECK.due("new: the first road's number", x.add(10, 11, 1), 0);
    }

    // ---- Promise 2 ----

    /** "answers the least number that none has" */
    private static void addTakesTheLeastFreeNumber() {
        RouteSuite x = Nets.full();
        for (int k = 0; k < 28; k++) {
            x.remove(k);
            CHECK.due("add with " + k + " free alone", x.add(3, 2, 8), k);
        }
        x.remove(27);
        x.remove(0);
        x.remove(13);
        CHECK.due("add with 0, 13 and 27 free", x.add(3, 2, 8), 0);
        CHECK.due("add with 13 and 27 free", x.add(3, 2, 8), 13);
        CHECK.due("add with 27 free", x.add(3, 2, 8), 27);
        CHECK.due("add with none free", x.add(3, 2, 8), FULL);
    }

    /** "BAD when a [..] is not 0 .. 11" */
    private static void addRefusesATooSmallBegin() {
        RouteSuite x = new RouteSuite();
        for (int a : Wrong.SMALL_POINTS) {
            CHECK.due("add(" + a + ", 5, 1)", x.add(a, 5, 1), BAD);
        }
        CHECK.due("add(0, 5, 1), the least begin", x.add(0, 5, 1), 0);
    }

    /** "BAD when a [..] is not 0 .. 11" */
    private static void addRefusesATooLargeBegin() {
        RouteSuite x = new RouteSuite();
        for (int a : Wrong.LARGE_POINTS) {
            CHECK.due("add(" + a + ", 5, 1)", x.add(a, 5, 1), BAD);
        }
        CHECK.due("add(11, 5, 1), the greatest begin", x.add(11, 5, 1), 0);
    }

    /** "BAD when [..] b is not 0 .. 11" */
    private static void addRefusesATooSmallEnd() {
        RouteSuite x = new RouteSuite();
        for (int b : Wrong.SMALL_POINTS) {
            CHECK.due("add(5, " + b + ", 1)", x.add(5, b, 1), BAD);
        }
        CHECK.due("add(5, 0, 1), the least end", x.add(5, 0, 1), 0);
    }

    /** "BAD when [..] b is not 0 .. 11" */
    private static void addRefusesATooLargeEnd() {
        RouteSuite x = new RouteSuite();
        for (int b : Wrong.LARGE_POINTS) {
            CHECK.due("add(5, " + b + ", 1)", x.add(5, b, 1), BAD);
        }
        CHECK.due("add(5, 11, 1), the greatest end", x.add(5, 11, 1), 0);
    }

    /** "BAD when [..] they are the same" */
    private static void addRefusesTheSamePointTwice() {
        RouteSuite x = new RouteSuite();
        for (int p = 0; p < 12; p++) {
            CHECK.due("add(" + p + ", " + p + ", 1)", x.add(p, p, 1), BAD);
            CHECK.due("add(" + p + ", " + p + ", 30)", x.add(p, p, 30), BAD);
        }
        for (int p : Wrong.POINTS) {
            CHECK.due("add(" + p + ", " + p + ", 1)", x.add(p, p, 1), BAD);
        }
        CHECK.due("they left no road", x.roads(), 0);
    }

    /** "BAD when [..] length is not 1 .. 30" */
    private static void addRefusesATooSmallLength() {
        RouteSuite x = new RouteSuite();
        for (int length : Wrong.SMALL_LENGTHS) {
            CHECK.due("add(0, 1, " + length + ")", x.add(0, 1, length), BAD);
        }
        CHECK.due("add(0, 1, 1), the least length", x.add(0, 1, 1), 0);
    }

    /** "BAD when [..] length is not 1 .. 30" */
    private static void addRefusesATooLargeLength() {
        RouteSuite x = new RouteSuite();
        for (int length : Wrong.LARGE_LENGTHS) {
            CHECK.due("add(0, 1, " + length + ")", x.add(0, 1, length), BAD);
        }
        CHECK.due("add(0, 1, 30), the greatest length", x.add(0, 1, 30), 0);
    }

    /** "FULL when there are 28" */
    private static void addRefusesThe29thRoad() {
        RouteSuite x = Nets.full();
        CHECK.due("the 29th add", x.add(0, 1, 1), FULL);
        CHECK.due("the 29th add, anew", x.add(11, 0, 30), FULL);
        CHECK.due("remove makes room", x.remove(5), 6);
        CHECK.due("the 28th add", x.add(0, 1, 1), 5);
        CHECK.due("the 29th add, after a gap was filled", x.add(0, 1, 1), FULL);
    }

    /** "(tested in this order)": BAD comes before FULL. */
    private static void addAnswersBadBeforeFull() {
        RouteSuite x = Nets.full();
        for (int p : Wrong.POINTS) {
            CHECK.due("full: add(" + p + ", 0, 1)", x.add(p, 0, 1), BAD);
            CHECK.due("full: add(0, " + p + ", 1)", x.add(0, p, 1), BAD);
        }
        for (int p = 0; p < 12; p++) {
            CHECK.due("full: add(" + p + ", " + p + ", 1)", x.add(p, p, 1), BAD);
        }
        for (int length : Wrong.LENGTHS) {
            CHECK.due("full: add(0, 1, " + length + ")", x.add(0, 1, length), BAD);
        }
    }

    private static void aRefusedAddChangesNothing() {
        RouteSuite x = Nets.small();
        for (int p : Wrong.POINTS) {
            x.add(p, 0, 1);
            x.add(0, p, 1);
        }
        for (int length : Wrong.LENGTHS) {
            x.add(6, 5, length);
        }
        x.add(7, 7, 1);
        CHECK.same("after refused adds", x, Nets.small());
    }

    private static void anAddToAFullNetChangesNothing() {
        RouteSuite x = Nets.full();
        x.add(0, 6, 1);
        x.add(11, 5, 1);
        x.add(0, 12, 1);
        x.add(0, 1, 0);
        CHECK.same("after adds to a full net", x, Nets.full());
    }

    // ---- Promise 3 ----

    /** "Takes road k away and answers its length" */
    private static void removeAnswersTheLength() {
        for (int k = 0; k < 28; k++) {
            RouteSuite x = Nets.full();
            CHECK.due("remove(" + k + ")", x.remove(k), k + 1);
            CHECK.due("roads() without " + k, x.roads(), ALL_ROADS & ~(1 << k));
        }
    }

    /** "answers its length": the one that it has, not the one that it came with. */
    private static void removeAnswersTheLengthOfAChangedRoad() {
        RouteSuite x = Nets.small();
        x.change(0, 30);
        x.change(5, 1);
        CHECK.due("remove of a road made longer", x.remove(0), 30);
        CHECK.due("remove of a road made shorter", x.remove(5), 1);
    }

    /** "BAD when there is none" */
    private static void removeRefusesATooSmallNumber() {
        RouteSuite x = Nets.full();
        for (int k : Wrong.SMALL_ROADS) {
            CHECK.due("remove(" + k + ")", x.remove(k), BAD);
        }
        CHECK.due("remove(0), the least number", x.remove(0), 1);
    }

    /** "BAD when there is none" */
    private static void removeRefusesATooLargeNumber() {
        RouteSuite x = Nets.full();
        for (int k : Wrong.LARGE_ROADS) {
            CHECK.due("remove(" + k + ")", x.remove(k), BAD);
        }
        CHECK.due("remove(27), the greatest number", x.remove(27), 28);
    }

    /** "BAD when there is none" */
    private static void removeRefusesAFreeNumber() {
        RouteSuite x = Nets.small();
        for (int k = 6; k < 28; k++) {
            CHECK.due("remove(" + k + ") with 6 roads", x.remove(k), BAD);
        }
    }

    /** "BAD when there is none" */
    private static void removeRefusesARoadTakenAway() {
        RouteSuite x = Nets.full();
        for (int k = 0; k < 28; k++) {
            x.remove(k);
            CHECK.due("remove(" + k + ") anew", x.remove(k), BAD);
        }
    }

    /** "Takes road k away", down to the last one. */
    private static void removeEmptiesAFullNet() {
        RouteSuite x = Nets.full();
        for (int k = 27; k >= 0; k--) {
            CHECK.due("remove(" + k + ")", x.remove(k), k + 1);
            CHECK.due("roads() after it", x.roads(), (1 << k) - 1);
        }
        CHECK.same("with all roads taken away", x, new RouteSuite());
    }

    private static void aRefusedRemoveChangesNothing() {
        RouteSuite x = Nets.small();
        for (int k : Wrong.ROADS) {
            x.remove(k);
        }
        x.remove(6);
        x.remove(27);
        CHECK.same("after refused removes", x, Nets.small());
    }

    // ---- Promise 4 ----

    /** "Gives road k another length and answers the one that it had" */
    private static void changeTakesTheShortestAndTheLongest() {
        for (int k = 0; k < 28; k++) {
            RouteSuite x = Nets.full();
            CHECK.due("change(" + k + ", 30)", x.change(k, 30), k + 1);
            CHECK.due("change(" + k + ", 1)", x.change(k, 1), 30);
            CHECK.due("distance over road " + k, x.distance(k % 7, k % 12, (k + 1) % 12), 1);
            CHECK.due("remove(" + k + ")", x.remove(k), 1);
        }
    }

    /** "BAD, changing nothing, when there is none" */
    private static void changeRefusesATooSmallNumber() {
        RouteSuite x = Nets.full();
        for (int k : Wrong.SMALL_ROADS) {
            CHECK.due("change(" + k + ", 30)", x.change(k, 30), BAD);
        }
        CHECK.due("change(0, 30), the least number", x.change(0, 30), 1);
    }

    /** "BAD, changing nothing, when there is none" */
    private static void changeRefusesATooLargeNumber() {
        RouteSuite x = Nets.full();
        for (int k : Wrong.LARGE_ROADS) {
            CHECK.due("change(" + k + ", 30)", x.change(k, 30), BAD);
        }
        CHECK.due("change(27, 30), the greatest number", x.change(27, 30), 28);
    }

    /** "BAD, changing nothing, when there is none" */
    private static void changeRefusesAFreeNumber() {
        RouteSuite x = Nets.small();
        for (int k = 6; k < 28; k++) {
            CHECK.due("change(" + k + ", 1) with 6 roads", x.change(k, 1), BAD);
        }
    }

    /** "BAD, changing nothing, when there is none" */
    private static void changeRefusesARoadTakenAway() {
        RouteSuite x = Nets.small();
        x.remove(0);
        CHECK.due("change(0, 4) after remove(0)", x.change(0, 4), BAD);
        CHECK.due("the road stays away", x.distance(0, 0, 1), NONE);
    }

    /** "BAD, changing nothing, when [..] length is not 1 .. 30" */
    private static void changeRefusesATooSmallLength() {
        RouteSuite x = Nets.small();
        for (int length : Wrong.SMALL_LENGTHS) {
            CHECK.due("change(0, " + length + ")", x.change(0, length), BAD);
        }
        CHECK.due("change(0, 1), the least length", x.change(0, 1), 4);
    }

    /** "BAD, changing nothing, when [..] length is not 1 .. 30" */
    private static void changeRefusesATooLargeLength() {
        RouteSuite x = Nets.small();
        for (int length : Wrong.LARGE_LENGTHS) {
            CHECK.due("change(0, " + length + ")", x.change(0, length), BAD);
        }
        CHECK.due("change(0, 30), the greatest length", x.change(0, 30), 4);
    }

    /** "BAD, changing nothing, when there is none or length is not 1 .. 30" */
    private static void changeRefusesBothWrong() {
        RouteSuite x = Nets.small();
        for (int k : Wrong.ROADS) {
            CHECK.due("change(" + k + ", 0)", x.change(k, 0), BAD);
            CHECK.due("change(" + k + ", 31)", x.change(k, 31), BAD);
        }
        CHECK.due("change(6, 0) with 6 roads", x.change(6, 0), BAD);
    }

    /** "another length" may be the one that it has: no sentence rules it out. */
    private static void changeToTheSameLengthChangesNothing() {
        RouteSuite x = Nets.small();
        CHECK.due("change(3, 12)", x.change(3, 12), 12);
        CHECK.same("after a change to the same length", x, Nets.small());
    }

    /** "BAD, changing nothing" */
    private static void aRefusedChangeChangesNothing() {
        RouteSuite x = Nets.small();
        for (int length : Wrong.LENGTHS) {
            x.change(0, length);
            x.change(3, length);
        }
        for (int k : Wrong.ROADS) {
            x.change(k, 1);
        }
        x.change(6, 1);
        x.change(27, 30);
        CHECK.same("after refused changes", x, Nets.small());
    }

    // ---- Promise 5 ----

    /** "The roads.": none. */
    private static void roadsOfAnEmptyNet() {
        RouteSuite x = new RouteSuite();
        CHECK.due("roads() of a new object", x.roads(), 0);
        x.add(0, 1, 1);
        CHECK.due("roads() with one", x.roads(), 1);
        x.remove(0);
        CHECK.due("roads() with that one taken away", x.roads(), 0);
    }

    /** "The roads.": all 28. */
    private static void roadsOfAFullNet() {
        RouteSuite x = Nets.full();
        CHECK.due("roads() with 28", x.roads(), ALL_ROADS);
        x.remove(27);
        CHECK.due("roads() without the last", x.roads(), ALL_ROADS >> 1);
        x.remove(0);
        CHECK.due("roads() without the first and the last", x.roads(), (ALL_ROADS >> 1) - 1);
    }
}
