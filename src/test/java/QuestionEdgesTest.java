/**
 * The promises 6 to 15: each sentence of the document that names a boundary case has a test of its
 * own here, in the order of the document, and each test has fresh objects. Wrong arguments are
 * tried where all points are in reach, so that what is not refused would find something.
 */
public final class QuestionEdgesTest {
    private static final int BAD = RouteSuite.BAD;
    private static final int NONE = RouteSuite.NONE;
    private static final int ALL_POINTS = 0xFFF;
    private static final int LEAST = Integer.MIN_VALUE;
    private static final int GREATEST = Integer.MAX_VALUE;
    private static final Check CHECK = new Check();

    public static void main(String[] args) {
        for (int engine = 0; engine < 7; engine++) {
            distanceOfTheEmptyRoute(engine);
            distanceIsTheShortestThereCanBe(engine);
            distanceIsTheLongestThereCanBe(engine);
            distanceIsNoneWithoutARoute(engine);
            distanceRefusesAWrongStart(engine);
            distanceRefusesAWrongGoal(engine);
            distanceIsBadRatherThanNone(engine);
        }
        distanceRefusesATooSmallEngine();
        distanceRefusesATooLargeEngine();
        agreeOfAllEngines();
        agreeOfAnEngineWithItself();
        agreeIsFalseForAWrongFirst();
        agreeIsFalseForAWrongSecond();
        agreeIsFalseForBothWrong();
        betweenHasBothEnds();
        betweenAPointAndItself();
        betweenHasAllRoutesOfTheLeastLength();
        betweenHasNoneThatIsLonger();
        betweenIsEmptyWithoutARoute();
        betweenRefusesAWrongStart();
        betweenRefusesAWrongGoal();
        aroundWithin0();
        aroundWithinLessThan0();
        aroundAtExactlyTheDistance();
        aroundWithinTheGreatestInt();
        aroundRefusesAWrongPoint();
        detourIsNoneForTheOnlyRoute();
        detourIs0WithAnotherAsShort();
        detourIs0ForALongerRoad();
        detourIsTheGreatestThereCanBe();
        detourRefusesAWrongNumber();
        detourRefusesAFreeNumber();
        detourChangesNothing();
        farthestWithoutARoad();
        farthestWithoutAWayOut();
        farthestIsTheGreatestThereCanBe();
        farthestRefusesAWrongPoint();
        widestOfAnEmptyNet();
        widestIsTheGreatestThereCanBe();
        needlessOfAnEmptyNet();
        needlessHasNoneTakenAway();
        needlessHasNoneOfTwoAlike();
        needlessHasNoneAsShortAsAnotherRoute();
        needlessHasOneLongerBy1();
        needlessHasAllButOneOfAFullNet();
        overTheStartOrTheGoal();
        overItselfAlone();
        overAndBack();
        overTheLongestThereCanBe();
        overIsNoneWithoutAWayThere();
        overIsNoneWithoutAWayOn();
        overIsNoneWithoutBoth();
        overRefusesAWrongStart();
        overRefusesAWrongPointBetween();
        overRefusesAWrongGoal();
        overIsBadRatherThanNone();
        soundOfAnEmptyNet();
        soundOfAFullNet();
        soundAfterRefusedCalls();
        CHECK.finish();
    }

    private static int bits(int... numbers) {
        int set = 0;
        for (int number : numbers) {
            set |= 1 << number;
        }
        return set;
    }

    // ---- Promise 6 ----

    /** "the empty list when s is t": also where a ring of roads leads back to s. */
    private static void distanceOfTheEmptyRoute(int engine) {
        RouteSuite empty = new RouteSuite();
        RouteSuite ring = Nets.ring(1);
        for (int p = 0; p < 12; p++) {
            CHECK.due("without roads: distance(" + engine + ", " + p + ", " + p + ")", empty.distance(engine, p, p), 0);
            CHECK.due("on a ring: distance(" + engine + ", " + p + ", " + p + ")", ring.distance(engine, p, p), 0);
        }
    }

    /** "The least length of a route": one road of length 1, beside one of length 2. */
    private static void distanceIsTheShortestThereCanBe(int engine) {
        RouteSuite x = new RouteSuite();
        x.add(11, 0, 2);
        x.add(11, 0, 1);
        CHECK.due("distance(" + engine + ", 11, 0)", x.distance(engine, 11, 0), 1);
    }

    /** "The least length of a route": 11 roads of length 30, in a row and against it. */
    private static void distanceIsTheLongestThereCanBe(int engine) {
        CHECK.due("distance(" + engine + ", 11, 0) down", Nets.longRow().distance(engine, 11, 0), 330);
        RouteSuite ring = Nets.ring(30);
        for (int p = 0; p < 12; p++) {
            int before = (p + 11) % 12;
            CHECK.due("distance(" + engine + ", " + p + ", " + before + ")", ring.distance(engine, p, before), 330);
        }
    }

    /** "NONE when there is none" */
    private static void distanceIsNoneWithoutARoute(int engine) {
        RouteSuite empty = new RouteSuite();
        RouteSuite row = Nets.longRow();
        for (int s = 0; s < 12; s++) {
            for (int t = 0; t < 12; t++) {
                if (s != t) {
                    CHECK.due("without roads: distance(" + engine + ", " + s + ", " + t + ")",
                        empty.distance(engine, s, t), NONE);
                }
                if (s < t) {
                    CHECK.due("up a row: distance(" + engine + ", " + s + ", " + t + ")",
                        row.distance(engine, s, t), NONE);
                }
            }
        }
    }

    /** "BAD when s [..] is not 0 .. 11" */
    private static void distanceRefusesAWrongStart(int engine) {
        RouteSuite x = Nets.ring(30);
        for (int s : Wrong.POINTS) {
            for (int t = 0; t < 12; t++) {
                CHECK.due("distance(" + engine + ", " + s + ", " + t + ")", x.distance(engine, s, t), BAD);
            }
        }
    }

    /** "BAD when [..] t is not 0 .. 11" */
    private static void distanceRefusesAWrongGoal(int engine) {
        RouteSuite x = Nets.ring(30);
        for (int t : Wrong.POINTS) {
            for (int s = 0; s < 12; s++) {
                CHECK.due("distance(" + engine + ", " + s + ", " + t + ")", x.distance(engine, s, t), BAD);
            }
            CHECK.due("distance(" + engine + ", " + t + ", " + t + ")", x.distance(engine, t, t), BAD);
        }
    }

    /** A wrong point is BAD also where there are no routes at all. */
    private static void distanceIsBadRatherThanNone(int engine) {
        RouteSuite x = new RouteSuite();
        for (int p : Wrong.POINTS) {
            CHECK.due("without roads: distance(" + engine + ", " + p + ", 0)", x.distance(engine, p, 0), BAD);
            CHECK.due("without roads: distance(" + engine + ", 0, " + p + ")", x.distance(engine, 0, p), BAD);
            CHECK.due("without roads: distance(" + engine + ", " + p + ", " + p + ")", x.distance(engine, p, p), BAD);
        }
    }

    /** "BAD when [..] there is no such engine" */
    private static void distanceRefusesATooSmallEngine() {
        RouteSuite x = Nets.longRow();
        for (int engine : Wrong.SMALL_ENGINES) {
            CHECK.due("distance(" + engine + ", 11, 0), with a route", x.distance(engine, 11, 0), BAD);
            CHECK.due("distance(" + engine + ", 0, 11), without a route", x.distance(engine, 0, 11), BAD);
            CHECK.due("distance(" + engine + ", 5, 5)", x.distance(engine, 5, 5), BAD);
            CHECK.due("distance(" + engine + ", 12, -1)", x.distance(engine, 12, -1), BAD);
        }
    }

    /** "BAD when [..] there is no such engine" */
    private static void distanceRefusesATooLargeEngine() {
        RouteSuite x = Nets.longRow();
        for (int engine : Wrong.LARGE_ENGINES) {
            CHECK.due("distance(" + engine + ", 11, 0), with a route", x.distance(engine, 11, 0), BAD);
            CHECK.due("distance(" + engine + ", 0, 11), without a route", x.distance(engine, 0, 11), BAD);
            CHECK.due("distance(" + engine + ", 5, 5)", x.distance(engine, 5, 5), BAD);
            CHECK.due("distance(" + engine + ", 12, -1)", x.distance(engine, 12, -1), BAD);
        }
    }

    // ---- Promise 7 ----

    /** "Whether two engines find the same distances": in an empty, a full and a long net. */
    private static void agreeOfAllEngines() {
        RouteSuite[] nets = {new RouteSuite(), Nets.full(), Nets.longRow(), Nets.ring(30)};
        for (RouteSuite x : nets) {
            for (int engine = 0; engine < 7; engine++) {
                for (int other = 0; other < 7; other++) {
                    CHECK.due("agree(" + engine + ", " + other + ")", x.agree(engine, other), true);
                }
            }
        }
    }

    /** Two engines may be one and the same, as long as it is one. */
    private static void agreeOfAnEngineWithItself() {
        RouteSuite x = Nets.small();
        CHECK.due("agree(0, 0), the least", x.agree(0, 0), true);
        CHECK.due("agree(6, 6), the greatest", x.agree(6, 6), true);
        CHECK.due("agree(-1, -1)", x.agree(-1, -1), false);
        CHECK.due("agree(7, 7)", x.agree(7, 7), false);
    }

    /** "false when one is none" */
    private static void agreeIsFalseForAWrongFirst() {
        RouteSuite x = new RouteSuite();
        for (int none : Wrong.ENGINES) {
            for (int engine = 0; engine < 7; engine++) {
                CHECK.due("agree(" + none + ", " + engine + ")", x.agree(none, engine), false);
            }
        }
    }

    /** "false when one is none" */
    private static void agreeIsFalseForAWrongSecond() {
        RouteSuite x = new RouteSuite();
        for (int none : Wrong.ENGINES) {
            for (int engine = 0; engine < 7; engine++) {
                CHECK.due("agree(" + engine + ", " + none + ")", x.agree(engine, none), false);
            }
        }
    }

    /** "false when one is none": and when both are. */
    private static void agreeIsFalseForBothWrong() {
        for (int none : Wrong.ENGINES) {
            RouteSuite x = new RouteSuite();
            for (int other : Wrong.ENGINES) {
                CHECK.due("agree(" + none + ", " + other + ")", x.agree(none, other), false);
            }
        }
    }

    // ---- Promise 8 ----

    /** "with s and t": also where one road is the whole route, or all points are on it. */
    private static void betweenHasBothEnds() {
        CHECK.due("between(5, 6) on one road", Nets.small().between(5, 6), bits(5, 6));
        CHECK.due("between(11, 0) down the longest row", Nets.longRow().between(11, 0), ALL_POINTS);
        CHECK.due("between(0, 11) on the longest ring", Nets.ring(30).between(0, 11), ALL_POINTS);
    }

    /** The empty route from s to s has the one point s, also on a ring. */
    private static void betweenAPointAndItself() {
        RouteSuite empty = new RouteSuite();
        RouteSuite ring = Nets.ring(1);
        for (int p = 0; p < 12; p++) {
            CHECK.due("without roads: between(" + p + ", " + p + ")", empty.between(p, p), 1 << p);
            CHECK.due("on a ring: between(" + p + ", " + p + ")", ring.between(p, p), 1 << p);
        }
    }

    /** "The points on some route from s to t of the least length": ten routes as short as each other. */
    private static void betweenHasAllRoutesOfTheLeastLength() {
        RouteSuite x = new RouteSuite();
        for (int p = 1; p < 11; p++) {
            x.add(0, p, 2 * p);
            x.add(p, 11, 30 - 2 * p);
        }
        CHECK.due("between(0, 11) over ten points", x.between(0, 11), ALL_POINTS);
        x.add(0, 11, 30);
        CHECK.due("between(0, 11) with a road as short", x.between(0, 11), ALL_POINTS);
    }

    /** "of the least length": not one longer by 1, and not one of the roads behind or before. */
    private static void betweenHasNoneThatIsLonger() {
        RouteSuite x = Nets.small();
        x.change(3, 11);
        CHECK.due("between(0, 3) with a road shorter by 1", x.between(0, 3), bits(0, 3));
        x.change(3, 13);
        CHECK.due("between(0, 2) before 3", x.between(0, 2), bits(0, 1, 2));
        CHECK.due("between(1, 3) behind 0", x.between(1, 3), bits(1, 2, 3));
    }

    /** "0 when there is no route" */
    private static void betweenIsEmptyWithoutARoute() {
        RouteSuite empty = new RouteSuite();
        RouteSuite row = Nets.longRow();
        for (int s = 0; s < 12; s++) {
            for (int t = s + 1; t < 12; t++) {
                CHECK.due("without roads: between(" + s + ", " + t + ")", empty.between(s, t), 0);
                CHECK.due("up a row: between(" + s + ", " + t + ")", row.between(s, t), 0);
            }
        }
    }

    /** "BAD when s [..] is not 0 .. 11" */
    private static void betweenRefusesAWrongStart() {
        RouteSuite x = Nets.ring(30);
        RouteSuite empty = new RouteSuite();
        for (int s : Wrong.POINTS) {
            for (int t = 0; t < 12; t++) {
                CHECK.due("between(" + s + ", " + t + ")", x.between(s, t), BAD);
            }
            CHECK.due("without roads: between(" + s + ", 0)", empty.between(s, 0), BAD);
        }
    }

    /** "BAD when [..] t is not 0 .. 11" */
    private static void betweenRefusesAWrongGoal() {
        RouteSuite x = Nets.ring(30);
        RouteSuite empty = new RouteSuite();
        for (int t : Wrong.POINTS) {
            for (int s = 0; s < 12; s++) {
                CHECK.due("between(" + s + ", " + t + ")", x.between(s, t), BAD);
            }
            CHECK.due("between(" + t + ", " + t + ")", x.between(t, t), BAD);
            CHECK.due("without roads: between(0, " + t + ")", empty.between(0, t), BAD);
        }
    }

    // ---- Promise 9 ----

    /** "a distance from s of at most r": s itself is 0 away. */
    private static void aroundWithin0() {
        RouteSuite x = Nets.ring(1);
        for (int s = 0; s < 12; s++) {
            CHECK.due("around(" + s + ", 0)", x.around(s, 0), 1 << s);
        }
    }

    /** "r (which may be any int)": nothing is less than 0 away, not even s. */
    private static void aroundWithinLessThan0() {
        RouteSuite x = Nets.ring(1);
        for (int s = 0; s < 12; s++) {
            CHECK.due("around(" + s + ", -1)", x.around(s, -1), 0);
            CHECK.due("around(" + s + ", -3)", x.around(s, NONE), 0);
            CHECK.due("around(" + s + ", the least int)", x.around(s, LEAST), 0);
            CHECK.due("around(" + s + ", the least int but one)", x.around(s, LEAST + 1), 0);
        }
    }

    /** "at most r": a distance of r is in, one of r + 1 is not. */
    private static void aroundAtExactlyTheDistance() {
        RouteSuite row = Nets.longRow();
        for (int p = 1; p < 12; p++) {
            int within = (ALL_POINTS << 11 - p) & ALL_POINTS;
            CHECK.due("around(11, " + 30 * p + ")", row.around(11, 30 * p), within);
            CHECK.due("around(11, " + (30 * p - 1) + ")", row.around(11, 30 * p - 1), within & within << 1);
        }
    }

    /** "r (which may be any int)": what has no route is not within any r. */
    private static void aroundWithinTheGreatestInt() {
        RouteSuite empty = new RouteSuite();
        RouteSuite row = Nets.longRow();
        for (int s = 0; s < 12; s++) {
            for (int r = GREATEST; r > 330; r = r / 2) {
                CHECK.due("without roads: around(" + s + ", " + r + ")", empty.around(s, r), 1 << s);
                CHECK.due("down a row: around(" + s + ", " + r + ")", row.around(s, r), (2 << s) - 1);
            }
        }
        for (int r = 1000; r <= 1000000000; r = r * 10) {
            CHECK.due("without roads: around(0, " + r + ")", empty.around(0, r), 1);
        }
    }

    /** "BAD when s is not 0 .. 11" */
    private static void aroundRefusesAWrongPoint() {
        RouteSuite x = Nets.ring(30);
        for (int s : Wrong.POINTS) {
            for (int r : new int[] {LEAST, -1, 0, 1, 330, GREATEST}) {
                CHECK.due("around(" + s + ", " + r + ")", x.around(s, r), BAD);
            }
        }
    }

    // ---- Promise 10 ----

    /** "NONE when there would be no route then" */
    private static void detourIsNoneForTheOnlyRoute() {
        RouteSuite ring = Nets.ring(30);
        for (int k = 0; k < 12; k++) {
            CHECK.due("on a ring: detour(" + k + ")", ring.detour(k), NONE);
        }
    }

    /** "By how much longer": by nothing, with one alike beside it or another route as short. */
    private static void detourIs0WithAnotherAsShort() {
        RouteSuite x = Nets.small();
        CHECK.due("detour(3) with a route as short", x.detour(3), 0);
        x.add(5, 6, 30);
        CHECK.due("detour(5) with one alike", x.detour(5), 0);
        CHECK.due("detour(6), the one alike", x.detour(6), 0);
    }

    /** "By how much longer the distance [..] would be": a road that is not the distance is not missed. */
    private static void detourIs0ForALongerRoad() {
        RouteSuite x = Nets.small();
        x.change(3, 30);
        CHECK.due("detour(3), a road too long", x.detour(3), 0);
        x.add(5, 6, 29);
        CHECK.due("detour(5), longer by 1 than the other", x.detour(5), 0);
        CHECK.due("detour(6), shorter by 1 than the other", x.detour(6), 1);
    }

    /** "By how much longer": from 1 to 11 roads of length 30. */
    private static void detourIsTheGreatestThereCanBe() {
        RouteSuite x = Nets.longRow();
        CHECK.due("add(11, 0, 1)", x.add(11, 0, 1), 11);
        CHECK.due("detour(11)", x.detour(11), 329);
    }

    /** "BAD when there is no road k" */
    private static void detourRefusesAWrongNumber() {
        RouteSuite x = Nets.full();
        for (int k : Wrong.ROADS) {
            CHECK.due("detour(" + k + ")", x.detour(k), BAD);
        }
        CHECK.due("detour(0), the least number", x.detour(0), 12);
        CHECK.due("detour(27), the greatest number", x.detour(27), 0);
        CHECK.due("detour(11), the only one from 11 but 23", x.detour(11), 12);
        CHECK.due("detour(3), beside 15 and 27", x.detour(3), 12);
    }

    /** "BAD when there is no road k" */
    private static void detourRefusesAFreeNumber() {
        RouteSuite x = Nets.small();
        for (int k = 6; k < 28; k++) {
            CHECK.due("detour(" + k + ") with 6 roads", x.detour(k), BAD);
        }
        x.remove(3);
        CHECK.due("detour(3) after remove(3)", x.detour(3), BAD);
    }

    /** "would be without road k": the road is there as before. */
    private static void detourChangesNothing() {
        RouteSuite x = Nets.full();
        for (int k = 0; k < 28; k++) {
            x.detour(k);
        }
        for (int k : Wrong.ROADS) {
            x.detour(k);
        }
        CHECK.same("after detours", x, Nets.full());
    }

    // ---- Promise 11 ----

    /** "to a point to which there is a route": to s itself there always is the empty one. */
    private static void farthestWithoutARoad() {
        RouteSuite x = new RouteSuite();
        for (int s = 0; s < 12; s++) {
            CHECK.due("without roads: farthest(" + s + ")", x.farthest(s), 0);
        }
    }

    /** "to a point to which there is a route": not to those from which there is one. */
    private static void farthestWithoutAWayOut() {
        RouteSuite x = Nets.longRow();
        for (int s = 0; s < 12; s++) {
            CHECK.due("down a row: farthest(" + s + ")", x.farthest(s), 30 * s);
        }
    }

    /** "The greatest distance" */
    private static void farthestIsTheGreatestThereCanBe() {
        RouteSuite x = Nets.ring(30);
        for (int s = 0; s < 12; s++) {
            CHECK.due("on a ring: farthest(" + s + ")", x.farthest(s), 330);
        }
    }

    /** "BAD when s is not 0 .. 11" */
    private static void farthestRefusesAWrongPoint() {
        RouteSuite x = Nets.ring(30);
        RouteSuite empty = new RouteSuite();
        for (int s : Wrong.POINTS) {
            CHECK.due("farthest(" + s + ")", x.farthest(s), BAD);
            CHECK.due("without roads: farthest(" + s + ")", empty.farthest(s), BAD);
        }
    }

    // ---- Promise 12 ----

    /** "between two points between which there is a route": without roads, the empty ones alone. */
    private static void widestOfAnEmptyNet() {
        RouteSuite x = new RouteSuite();
        CHECK.due("widest() of a new object", x.widest(), 0);
        x.add(0, 11, 30);
        CHECK.due("widest() with one road", x.widest(), 30);
        x.remove(0);
        CHECK.due("widest() with that one taken away", x.widest(), 0);
    }

    /** "The greatest distance": from the first point, from the last, and from one between. */
    private static void widestIsTheGreatestThereCanBe() {
        CHECK.due("widest() of a row down", Nets.longRow().widest(), 330);
        for (int gap = 0; gap < 12; gap++) {
            RouteSuite x = Nets.ring(30);
            CHECK.due("widest() of a ring", x.widest(), 330);
            x.remove(gap);
            CHECK.due("widest() of a ring without road " + gap, x.widest(), 330);
            x.change((gap + 1) % 12, 1);
            CHECK.due("widest() of that with a road of 1", x.widest(), 301);
        }
    }

    // ---- Promise 13 ----

    /** "The roads that are on no route": of no roads, none. */
    private static void needlessOfAnEmptyNet() {
        RouteSuite x = new RouteSuite();
        CHECK.due("needless() of a new object", x.needless(), 0);
        x.add(0, 1, 1);
        x.add(0, 1, 2);
        CHECK.due("needless() with one", x.needless(), bits(1));
        x.remove(0);
        CHECK.due("needless() with the other taken away", x.needless(), 0);
        x.remove(1);
        CHECK.due("needless() with both taken away", x.needless(), 0);
    }

    /** "The roads": one that was needless is none any more once it is taken away. */
    private static void needlessHasNoneTakenAway() {
        RouteSuite x = new RouteSuite();
        x.add(0, 1, 1);
        for (int k = 1; k < 28; k++) {
            x.add(0, 1, 30);
        }
        for (int k = 1; k < 28; k++) {
            x.remove(k);
            CHECK.due("needless() without the roads 1 to " + k, x.needless(), 0xFFFFFFF & (-2 << k));
        }
    }

    /** "on no route of the least length": of two alike, each is on one. */
    private static void needlessHasNoneOfTwoAlike() {
        RouteSuite x = new RouteSuite();
        for (int k = 0; k < 28; k++) {
            x.add(11, 0, 30);
        }
        CHECK.due("needless() with 28 alike", x.needless(), 0);
    }

    /** "on no route of the least length": a road may be as long as another route. */
    private static void needlessHasNoneAsShortAsAnotherRoute() {
        CHECK.due("needless() with a route as short", Nets.small().needless(), 0);
    }

    /** "on no route of the least length" */
    private static void needlessHasOneLongerBy1() {
        RouteSuite x = Nets.small();
        x.change(3, 13);
        CHECK.due("needless() with a road longer by 1", x.needless(), bits(3));
        x.change(3, 11);
        CHECK.due("needless() with a road shorter by 1", x.needless(), 0);
    }

    /** "The roads": the first and the last number among them. */
    private static void needlessHasAllButOneOfAFullNet() {
        for (int needed = 0; needed < 28; needed++) {
            RouteSuite x = new RouteSuite();
            for (int k = 0; k < 28; k++) {
                x.add(0, 11, k == needed ? 29 : 30);
            }
            CHECK.due("needless() with " + needed + " shorter by 1", x.needless(), 0xFFFFFFF & ~(1 << needed));
        }
    }

    // ---- Promise 14 ----

    /** "comes through point p": a route comes through where it begins and where it ends. */
    private static void overTheStartOrTheGoal() {
        RouteSuite x = Nets.longRow();
        CHECK.due("over(11, 11, 0)", x.over(11, 11, 0), 330);
        CHECK.due("over(11, 0, 0)", x.over(11, 0, 0), 330);
        CHECK.due("over(0, 0, 11), without a route", x.over(0, 0, 11), NONE);
        CHECK.due("over(0, 11, 11), without a route", x.over(0, 11, 11), NONE);
    }

    /** The empty route from s to s comes through s, also on a ring. */
    private static void overItselfAlone() {
        RouteSuite empty = new RouteSuite();
        RouteSuite ring = Nets.ring(1);
        for (int p = 0; p < 12; p++) {
            CHECK.due("without roads: over " + p + " thrice", empty.over(p, p, p), 0);
            CHECK.due("on a ring: over " + p + " thrice", ring.over(p, p, p), 0);
        }
    }

    /** "from s to t that comes through point p": s may be t, and the route may pass t before p. */
    private static void overAndBack() {
        RouteSuite ring = Nets.ring(30);
        for (int p = 1; p < 12; p++) {
            CHECK.due("over(0, " + p + ", 0)", ring.over(0, p, 0), 360);
        }
        CHECK.due("over(0, 2, 1)", ring.over(0, 2, 1), 390);
    }

    /** "The least length": 11 roads of length 30 there, and as many on. */
    private static void overTheLongestThereCanBe() {
        RouteSuite ring = Nets.ring(30);
        for (int s = 0; s < 12; s++) {
            CHECK.due("over from " + s, ring.over(s, (s + 11) % 12, (s + 10) % 12), 660);
        }
    }

    /** "NONE when there is none": no way from s to p, though there is one from s to t. */
    private static void overIsNoneWithoutAWayThere() {
        RouteSuite x = Nets.longRow();
        CHECK.due("over(5, 11, 0)", x.over(5, 11, 0), NONE);
        CHECK.due("over(0, 11, 0)", x.over(0, 11, 0), NONE);
    }

    /** "NONE when there is none": no way from p to t, though there is one from s to t. */
    private static void overIsNoneWithoutAWayOn() {
        RouteSuite x = Nets.longRow();
        CHECK.due("over(11, 0, 5)", x.over(11, 0, 5), NONE);
        CHECK.due("over(11, 0, 11)", x.over(11, 0, 11), NONE);
    }

    /** "NONE when there is none": neither the way there nor the way on. */
    private static void overIsNoneWithoutBoth() {
        RouteSuite row = Nets.longRow();
        RouteSuite empty = new RouteSuite();
        CHECK.due("over(0, 5, 11) up a row", row.over(0, 5, 11), NONE);
        for (int p = 1; p < 11; p++) {
            CHECK.due("without roads: over(0, " + p + ", 11)", empty.over(0, p, 11), NONE);
            CHECK.due("without roads: over(0, " + p + ", 0)", empty.over(0, p, 0), NONE);
        }
    }

    /** "BAD when one is not 0 .. 11" */
    private static void overRefusesAWrongStart() {
        RouteSuite x = Nets.ring(30);
        for (int s : Wrong.POINTS) {
            for (int t = 0; t < 12; t++) {
                CHECK.due("over(" + s + ", 5, " + t + ")", x.over(s, 5, t), BAD);
            }
        }
    }

    /** "BAD when one is not 0 .. 11" */
    private static void overRefusesAWrongPointBetween() {
        RouteSuite x = Nets.ring(30);
        for (int p : Wrong.POINTS) {
            for (int t = 0; t < 12; t++) {
                CHECK.due("over(5, " + p + ", " + t + ")", x.over(5, p, t), BAD);
            }
        }
    }

    /** "BAD when one is not 0 .. 11" */
    private static void overRefusesAWrongGoal() {
        RouteSuite x = Nets.ring(30);
        for (int t : Wrong.POINTS) {
            for (int p = 0; p < 12; p++) {
                CHECK.due("over(5, " + p + ", " + t + ")", x.over(5, p, t), BAD);
            }
        }
    }

    /** A wrong point is BAD also where there are no routes at all, and beside other wrong ones. */
    private static void overIsBadRatherThanNone() {
        RouteSuite x = new RouteSuite();
        for (int p : Wrong.POINTS) {
            CHECK.due("without roads: over(" + p + ", 1, 0)", x.over(p, 1, 0), BAD);
            CHECK.due("without roads: over(0, " + p + ", 1)", x.over(0, p, 1), BAD);
            CHECK.due("without roads: over(0, 1, " + p + ")", x.over(0, 1, p), BAD);
            CHECK.due("without roads: over " + p + " thrice", x.over(p, p, p), BAD);
        }
    }

    // ---- Promise 15 ----

    /** "it always is": before the first road and after the last. */
    private static void soundOfAnEmptyNet() {
        RouteSuite x = new RouteSuite();
        CHECK.due("sound() of a new object", x.sound(), true);
        x.add(0, 11, 30);
        CHECK.due("sound() with one road", x.sound(), true);
        x.remove(0);
        CHECK.due("sound() with that one taken away", x.sound(), true);
    }

    /** "it always is": with 28 roads, each on the way up to them and down again. */
    private static void soundOfAFullNet() {
        RouteSuite x = new RouteSuite();
        for (int k = 0; k < 28; k++) {
            x.add(k % 12, (k + 5) % 12, 30 - k);
            CHECK.due("sound() with " + (k + 1) + " roads", x.sound(), true);
        }
        for (int k = 0; k < 28; k++) {
            x.change(k, 1 + k);
            CHECK.due("sound() after change(" + k + ", " + (1 + k) + ")", x.sound(), true);
        }
        for (int k = 27; k >= 0; k--) {
            x.remove(k);
            CHECK.due("sound() with " + k + " roads", x.sound(), true);
        }
    }

    /** "it always is": after each call that is refused too. */
    private static void soundAfterRefusedCalls() {
        RouteSuite x = Nets.full();
        x.add(0, 1, 1);
        CHECK.due("sound() after an add to a full net", x.sound(), true);
        x.add(0, 12, 1);
        CHECK.due("sound() after a refused add", x.sound(), true);
        x.remove(28);
        CHECK.due("sound() after a refused remove", x.sound(), true);
        x.change(0, 31);
        CHECK.due("sound() after a change to a wrong length", x.sound(), true);
        x.change(28, 1);
        CHECK.due("sound() after a change of no road", x.sound(), true);
        x.detour(0);
        CHECK.due("sound() after a detour", x.sound(), true);
        x.distance(7, 0, 12);
        CHECK.due("sound() after a refused question", x.sound(), true);
    }
}
