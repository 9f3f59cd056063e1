/** Lands that several tests begin with. */
final class Lands {
    private Lands() {
    }

    /** LINE 0: 0-1, RAILWAY 0, 100. 1: 1-2, RAILWAY 1, 50, a BOAT. 2: 0-2, RAILWAY 2, 150. */
    static RailPasses land() {
        RailPasses x = new RailPasses();
        x.line(0, 1, 0, 100, false);
        x.line(1, 2, 1, 50, true);
        x.line(0, 2, 2, 150, false);
        return x;
    }

    /** TRAIN 0: plain. 1: FAST with a QUOTA of 2. 2: a BOAT. 3: 22:00, OVER MIDNIGHT. 4: a FAST BOAT, QUOTA 9. */
    static RailPasses trains() {
        RailPasses x = land();
        x.train(0, true, 600, 100, false, 40);
        x.train(0, false, 700, 100, true, 2060);
        x.train(1, true, 800, 60, false, 55);
        x.train(2, true, 1320, 120, false, 80);
        x.train(1, false, 900, 60, true, 9101);
        return x;
    }

    /** The TRAINS above, and one LAW, of which no PASS is sold. */
    static RailPasses trainsBy(String law) {
        RailPasses x = trains();
        Due.read(x, 0, law);
        return x;
    }

    /** The TRAINS above, and PASS 0 by a LAW from a START. */
    static RailPasses sold(String law, int start) {
        RailPasses x = trainsBy(law);
        x.sell(0, start, false);
        return x;
    }

    /** STATIONS 0 to 5 in a row: LINE i from i to i + 1, of RAILWAY i, of the MILES told. */
    static RailPasses row(int... miles) {
        RailPasses x = new RailPasses();
        for (int i = 0; i < miles.length; i++) {
            x.line(i, i + 1, i, miles[i], false);
        }
        return x;
    }
}
