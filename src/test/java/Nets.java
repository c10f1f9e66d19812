/** The nets that the tests ask about. */
final class Nets {
    private Nets() {
    }

    /** 0 -4- 1 -3- 2 -5- 3 in a row with 0 -12- 3 beside it, 3 -1- 0 back, and 5 -30- 6 apart. */
    static RouteSuite small() {
        RouteSuite x = new RouteSuite();
        x.add(0, 1, 4);
        x.add(1, 2, 3);
        x.add(2, 3, 5);
        x.add(0, 3, 12);
        x.add(3, 0, 1);
        x.add(5, 6, 30);
        return x;
    }

    /** The longest way there can be: 11 roads of length 30 from point 11 down to 0. */
    static RouteSuite longRow() {
        RouteSuite x = new RouteSuite();
        for (int p = 11; p > 0; p--) {
            x.add(p, p - 1, 30);
        }
        return x;
    }

    /** Road p leads from point p to the next one, and from the last to the first: all is in reach. */
    static RouteSuite ring(int length) {
        RouteSuite x = new RouteSuite();
        for (int p = 0; p < 12; p++) {
            x.add(p, (p + 1) % 12, length);
        }
        return x;
    }

    /** Road k, of length k + 1, leads from point k % 12 to the next one: two rings and a bit. */
    static RouteSuite full() {
        RouteSuite x = new RouteSuite();
        for (int k = 0; k < 28; k++) {
            x.add(k % 12, (k + 1) % 12, k + 1);
        }
        return x;
    }
}
