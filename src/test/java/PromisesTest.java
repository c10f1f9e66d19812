/** The promises one by one: ordinary inputs, the edges that the document names, wrong inputs. */
public final class PromisesTest {
    private static final int BAD = RouteSuite.BAD;
    private static final int FULL = RouteSuite.FULL;
    private static final int NONE = RouteSuite.NONE;
    private static final Check CHECK = new Check();

    public static void main(String[] args) {
        theConstants();
        aNewObject();
        add();
        addWhenFull();
        remove();
        change();
        roads();
        distance();
        agree();
        between();
        around();
        detour();
        farthest();
        widest();
        needless();
        over();
        sound();
        objectsAreApart();
        CHECK.finish();
    }

    private static int bits(int... numbers) {
        int set = 0;
        for (int number : numbers) {
            set |= 1 << number;
        }
        return set;
    }

    private static void theConstants() {
        CHECK.due("BAD", BAD, -1);
        CHECK.due("FULL", FULL, -2);
        CHECK.due("NONE", NONE, -3);
    }

    private static void aNewObject() {
        RouteSuite x = new RouteSuite();
        CHECK.due("new: roads()", x.roads(), 0);
        CHECK.due("new: widest()", x.widest(), 0);
        CHECK.due("new: needless()", x.needless(), 0);
        CHECK.due("new: sound()", x.sound(), true);
        for (int s = 0; s < 12; s++) {
            CHECK.due("new: farthest", x.farthest(s), 0);
            for (int t = 0; t < 12; t++) {
                CHECK.due("new: distance " + s + " " + t, x.distance((s + t) % 7, s, t), s == t ? 0 : NONE);
            }
        }
        for (int k = 0; k < 28; k++) {
            CHECK.due("new: detour " + k, x.detour(k), BAD);
        }
    }

    private static void add() {
        RouteSuite x = new RouteSuite();
        for (int p : Wrong.POINTS) {
            CHECK.due("add from " + p, x.add(p, 0, 1), BAD);
            CHECK.due("add to " + p, x.add(0, p, 1), BAD);
        }
        for (int length : Wrong.LENGTHS) {
            CHECK.due("add of length " + length, x.add(0, 1, length), BAD);
        }
        for (int p = 0; p < 12; p++) {
            CHECK.due("add to itself " + p, x.add(p, p, 1), BAD);
        }
        CHECK.due("roads() after wrong adds", x.roads(), 0);
        CHECK.due("add(0, 11, 1)", x.add(0, 11, 1), 0);
        CHECK.due("add(11, 0, 30)", x.add(11, 0, 30), 1);
        CHECK.due("add of one like another", x.add(0, 11, 1), 2);
        CHECK.due("distance(0, 0, 11)", x.distance(0, 0, 11), 1);
        CHECK.due("distance(0, 11, 0)", x.distance(0, 11, 0), 30);
        x.remove(1);
        x.remove(0);
        CHECK.due("add takes the least free number", x.add(4, 5, 6), 0);
        CHECK.due("add takes the next free number", x.add(5, 6, 7), 1);
        CHECK.due("add goes on after the last number", x.add(6, 7, 8), 3);
        CHECK.due("distance(0, 4, 7)", x.distance(0, 4, 7), 21);
        CHECK.due("the new road 1 is not the old one", x.distance(0, 11, 0), NONE);
    }

    private static void addWhenFull() {
        RouteSuite x = Nets.full();
        CHECK.due("full: roads()", x.roads(), 0xFFFFFFF);
        CHECK.due("full: add(0, 1, 1)", x.add(0, 1, 1), FULL);
        CHECK.due("full: add of a wrong point", x.add(12, 1, 1), BAD);
        CHECK.due("full: add to a wrong point", x.add(1, -1, 1), BAD);
        CHECK.due("full: add to itself", x.add(1, 1, 1), BAD);
        CHECK.due("full: add of a wrong length", x.add(0, 1, 31), BAD);
        CHECK.due("full: the wrong adds change nothing", x.roads(), 0xFFFFFFF);
        CHECK.due("full: the shortest of three roads beside each other", x.distance(0, 0, 1), 1);
        CHECK.due("full: remove(27)", x.remove(27), 28);
        CHECK.due("full: add again", x.add(0, 1, 1), 27);
        CHECK.due("full: add once more", x.add(0, 1, 1), FULL);
        CHECK.due("full: remove(13)", x.remove(13), 14);
        CHECK.due("full: add in the gap", x.add(0, 1, 2), 13);
    }

    private static void remove() {
        RouteSuite x = Nets.small();
        for (int k : Wrong.ROADS) {
            CHECK.due("remove " + k, x.remove(k), BAD);
        }
        CHECK.due("remove of one that never was", x.remove(6), BAD);
        CHECK.due("roads() after wrong removes", x.roads(), bits(0, 1, 2, 3, 4, 5));
        CHECK.due("remove(1)", x.remove(1), 3);
        CHECK.due("remove(1) again", x.remove(1), BAD);
        CHECK.due("roads() after remove", x.roads(), bits(0, 2, 3, 4, 5));
        CHECK.due("distance(0, 0, 2) after remove", x.distance(0, 0, 2), NONE);
        CHECK.due("remove(5)", x.remove(5), 30);
        CHECK.due("remove(4)", x.remove(4), 1);
        CHECK.due("distance(6, 3, 0) after remove", x.distance(6, 3, 0), NONE);
        CHECK.due("remove(3)", x.remove(3), 12);
        CHECK.due("remove(2)", x.remove(2), 5);
        CHECK.due("remove(0)", x.remove(0), 4);
        CHECK.due("roads() after all removes", x.roads(), 0);
        CHECK.due("widest() after all removes", x.widest(), 0);
    }

    private static void change() {
        RouteSuite x = Nets.small();
        for (int k : Wrong.ROADS) {
            CHECK.due("change " + k, x.change(k, 5), BAD);
        }
        CHECK.due("change of one that never was", x.change(6, 5), BAD);
        for (int length : Wrong.LENGTHS) {
            CHECK.due("change to " + length, x.change(0, length), BAD);
        }
        CHECK.due("wrong changes change nothing", x.distance(0, 0, 1), 4);
        CHECK.due("change(0, 30)", x.change(0, 30), 4);
        CHECK.due("distance(0, 0, 1)", x.distance(0, 0, 1), 30);
        CHECK.due("distance(1, 0, 3)", x.distance(1, 0, 3), 12);
        CHECK.due("change(0, 1)", x.change(0, 1), 30);
        CHECK.due("distance(2, 0, 3)", x.distance(2, 0, 3), 9);
        CHECK.due("change(0, 1) again", x.change(0, 1), 1);
        CHECK.due("change keeps the roads", x.roads(), bits(0, 1, 2, 3, 4, 5));
        x.remove(0);
        CHECK.due("change of one taken away", x.change(0, 2), BAD);
        CHECK.due("it stays away", x.roads(), bits(1, 2, 3, 4, 5));
    }

    private static void roads() {
        RouteSuite x = new RouteSuite();
        for (int k = 0; k < 28; k++) {
            CHECK.due("roads() with " + k, x.roads(), (1 << k) - 1);
            x.add(0, 1, 1);
        }
        CHECK.due("roads() with 28", x.roads(), 0xFFFFFFF);
        for (int k = 0; k < 28; k += 2) {
            x.remove(k);
        }
        CHECK.due("roads() with the odd ones", x.roads(), 0xAAAAAAA);
    }

    private static void distance() {
        for (int engine = 0; engine < 7; engine++) {
            RouteSuite x = Nets.small();
            RouteSuite row = Nets.longRow();
            String by = "engine " + engine + ": ";
            CHECK.due(by + "0 to 3, both ways as long", x.distance(engine, 0, 3), 12);
            CHECK.due(by + "1 to 0", x.distance(engine, 1, 0), 9);
            CHECK.due(by + "3 to 2", x.distance(engine, 3, 2), 8);
            CHECK.due(by + "5 to 6", x.distance(engine, 5, 6), 30);
            CHECK.due(by + "6 to 5, against the road", x.distance(engine, 6, 5), NONE);
            CHECK.due(by + "0 to 5", x.distance(engine, 0, 5), NONE);
            CHECK.due(by + "0 to 0", x.distance(engine, 0, 0), 0);
            CHECK.due(by + "11 to 11", x.distance(engine, 11, 11), 0);
            CHECK.due(by + "the longest", row.distance(engine, 11, 0), 330);
            CHECK.due(by + "the longest back", row.distance(engine, 0, 11), NONE);
            for (int p : Wrong.POINTS) {
                CHECK.due(by + "from " + p, x.distance(engine, p, 0), BAD);
                CHECK.due(by + "to " + p, x.distance(engine, 0, p), BAD);
                CHECK.due(by + "from and to " + p, x.distance(engine, p, p), BAD);
            }
        }
        RouteSuite x = Nets.small();
        for (int engine : Wrong.ENGINES) {
            CHECK.due("distance by engine " + engine, x.distance(engine, 0, 3), BAD);
            CHECK.due("distance by engine " + engine, x.distance(engine, 0, 5), BAD);
        }
    }

    private static void agree() {
        RouteSuite[] nets = {new RouteSuite(), Nets.small(), Nets.longRow(), Nets.full()};
        for (RouteSuite x : nets) {
            for (int engine = 0; engine < 7; engine++) {
                for (int other = 0; other < 7; other++) {
                    CHECK.due("agree(" + engine + ", " + other + ")", x.agree(engine, other), true);
                }
                for (int none : Wrong.ENGINES) {
                    CHECK.due("agree(" + engine + ", " + none + ")", x.agree(engine, none), false);
                    CHECK.due("agree(" + none + ", " + engine + ")", x.agree(none, engine), false);
                    CHECK.due("agree(" + none + ", " + none + ")", x.agree(none, none), false);
                }
            }
        }
    }

    private static void between() {
        RouteSuite x = Nets.small();
        CHECK.due("between on two ways as long", x.between(0, 3), bits(0, 1, 2, 3));
        x.change(3, 11);
        CHECK.due("between on the one shorter way", x.between(0, 3), bits(0, 3));
        x.change(3, 13);
        CHECK.due("between on the other shorter way", x.between(0, 3), bits(0, 1, 2, 3));
        CHECK.due("between over 3", x.between(2, 1), bits(0, 1, 2, 3));
        CHECK.due("between of a point and itself", x.between(1, 1), bits(1));
        CHECK.due("between of a point without roads", x.between(11, 11), bits(11));
        CHECK.due("between without a route", x.between(6, 5), 0);
        CHECK.due("between without a route", x.between(0, 5), 0);
        CHECK.due("between on the longest", Nets.longRow().between(11, 0), 0xFFF);
        for (int p : Wrong.POINTS) {
            CHECK.due("between from " + p, x.between(p, 0), BAD);
            CHECK.due("between to " + p, x.between(0, p), BAD);
            CHECK.due("between from and to " + p, x.between(p, p), BAD);
        }
    }

    private static void around() {
        RouteSuite x = Nets.small();
        CHECK.due("around(0, -1)", x.around(0, -1), 0);
        CHECK.due("around(0, least int)", x.around(0, Integer.MIN_VALUE), 0);
        CHECK.due("around(0, 0)", x.around(0, 0), bits(0));
        CHECK.due("around(0, 3)", x.around(0, 3), bits(0));
        CHECK.due("around(0, 4)", x.around(0, 4), bits(0, 1));
        CHECK.due("around(0, 11)", x.around(0, 11), bits(0, 1, 2));
        CHECK.due("around(0, 12)", x.around(0, 12), bits(0, 1, 2, 3));
        CHECK.due("around(0, 1000000)", x.around(0, 1000000), bits(0, 1, 2, 3));
        CHECK.due("around(0, greatest int)", x.around(0, Integer.MAX_VALUE), bits(0, 1, 2, 3));
        CHECK.due("around(6, greatest int)", x.around(6, Integer.MAX_VALUE), bits(6));
        CHECK.due("around(11, 329) on the longest", Nets.longRow().around(11, 329), 0xFFE);
        CHECK.due("around(11, 330) on the longest", Nets.longRow().around(11, 330), 0xFFF);
        for (int p : Wrong.POINTS) {
            CHECK.due("around " + p, x.around(p, 5), BAD);
            CHECK.due("around " + p, x.around(p, -5), BAD);
        }
    }

    private static void detour() {
        RouteSuite x = Nets.small();
        CHECK.due("detour of one of two ways as long", x.detour(3), 0);
        x.change(3, 7);
        CHECK.due("detour of the shorter way", x.detour(3), 5);
        x.change(3, 20);
        CHECK.due("detour of the longer way", x.detour(3), 0);
        CHECK.due("detour of the only way", x.detour(5), NONE);
        CHECK.due("detour of a road on the way", x.detour(1), NONE);
        x.add(5, 6, 30);
        CHECK.due("detour with one like it beside", x.detour(5), 0);
        x.change(6, 1);
        CHECK.due("detour with a shorter one beside", x.detour(5), 0);
        CHECK.due("detour of the shorter one", x.detour(6), 29);
        CHECK.due("detour changes nothing", x.distance(1, 5, 6), 1);
        CHECK.due("detour takes no road away", x.roads(), bits(0, 1, 2, 3, 4, 5, 6));
        x.remove(6);
        CHECK.due("detour of one taken away", x.detour(6), BAD);
        for (int k : Wrong.ROADS) {
            CHECK.due("detour " + k, x.detour(k), BAD);
        }
    }

    private static void farthest() {
        RouteSuite x = Nets.small();
        CHECK.due("farthest(0)", x.farthest(0), 12);
        CHECK.due("farthest(1)", x.farthest(1), 9);
        CHECK.due("farthest(2)", x.farthest(2), 10);
        CHECK.due("farthest(5)", x.farthest(5), 30);
        CHECK.due("farthest(6), to itself alone", x.farthest(6), 0);
        CHECK.due("farthest(11), without roads", x.farthest(11), 0);
        CHECK.due("farthest on the longest", Nets.longRow().farthest(11), 330);
        for (int p : Wrong.POINTS) {
            CHECK.due("farthest " + p, x.farthest(p), BAD);
        }
    }

    private static void widest() {
        RouteSuite x = Nets.small();
        CHECK.due("widest()", x.widest(), 30);
        x.remove(5);
        CHECK.due("widest() without road 5", x.widest(), 12);
        x.change(4, 30);
        CHECK.due("widest() with a long way back", x.widest(), 39);
        CHECK.due("widest() on the longest", Nets.longRow().widest(), 330);
    }

    private static void needless() {
        RouteSuite x = Nets.small();
        CHECK.due("needless() with two ways as long", x.needless(), 0);
        x.change(3, 13);
        CHECK.due("needless() with one that is longer", x.needless(), bits(3));
        x.add(5, 6, 30);
        CHECK.due("needless() with two roads alike", x.needless(), bits(3));
        x.change(6, 29);
        CHECK.due("needless() with a shorter one beside", x.needless(), bits(3, 5));
        x.remove(3);
        CHECK.due("needless() without the longer one", x.needless(), bits(5));
        x.remove(6);
        CHECK.due("needless() without the shorter one", x.needless(), 0);
        RouteSuite full = new RouteSuite();
        for (int k = 0; k < 28; k++) {
            full.add(3, 4, k == 27 ? 1 : 2);
        }
        CHECK.due("needless() with 28 beside each other", full.needless(), 0x7FFFFFF);
    }

    private static void over() {
        RouteSuite x = Nets.small();
        CHECK.due("over a point on the way", x.over(0, 1, 3), 12);
        CHECK.due("over the start", x.over(0, 0, 3), 12);
        CHECK.due("over the goal", x.over(0, 3, 3), 12);
        CHECK.due("over a point off the way", x.over(0, 3, 1), 17);
        CHECK.due("over a point and back", x.over(0, 3, 0), 13);
        CHECK.due("over a point and itself alone", x.over(7, 7, 7), 0);
        CHECK.due("over a point out of reach", x.over(0, 5, 3), NONE);
        CHECK.due("over a point with no way on", x.over(5, 6, 5), NONE);
        CHECK.due("over a point with no way to it", x.over(6, 5, 6), NONE);
        CHECK.due("over with no way at all", x.over(8, 9, 10), NONE);
        for (int p : Wrong.POINTS) {
            CHECK.due("over from " + p, x.over(p, 0, 0), BAD);
            CHECK.due("over " + p, x.over(0, p, 0), BAD);
            CHECK.due("over to " + p, x.over(0, 0, p), BAD);
            CHECK.due("over to " + p + " with no way", x.over(6, 5, p), BAD);
        }
        RouteSuite ring = new RouteSuite();
        for (int p = 0; p < 12; p++) {
            ring.add(p, (p + 1) % 12, 30);
        }
        CHECK.due("over the longest", ring.over(0, 11, 10), 660);
    }

    private static void sound() {
        RouteSuite x = new RouteSuite();
        for (int k = 0; k < 28; k++) {
            x.add(k * 5 % 12, (k * 7 + 3) % 12, k + 1);
            CHECK.due("sound() after add " + k, x.sound(), true);
        }
        for (int k = 0; k < 28; k += 3) {
            x.change(k, 30 - k);
            CHECK.due("sound() after change " + k, x.sound(), true);
        }
        for (int k = 0; k < 28; k++) {
            x.remove(k);
            CHECK.due("sound() after remove " + k, x.sound(), true);
        }
    }

    private static void objectsAreApart() {
        RouteSuite x = Nets.small();
        RouteSuite y = new RouteSuite();
        CHECK.due("a second object has no roads", y.roads(), 0);
        y.add(0, 1, 30);
        CHECK.due("a second object's road is its own", x.distance(1, 0, 1), 4);
        CHECK.due("the first object's road is its own", y.distance(1, 0, 1), 30);
    }
}
