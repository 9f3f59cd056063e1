/** All that an object tells when it is asked, as one text: two objects with the same text are alike. */
final class Told {
    private static final int ROWS_AT_EACH_END = 5;

    private final RailPasses x;
    private final StringBuilder text = new StringBuilder();

    private Told(RailPasses x) {
        this.x = x;
    }

    /** What is kept, and how things stand: all but THE TAPE and ROWS. */
    static String ofAllKept(RailPasses x) {
        Told told = new Told(x);
        told.counts();
        told.land();
        told.laws();
        told.passes();
        told.wishes();
        told.scans();
        return told.text.toString();
    }

    static String ofTapeAndRows(RailPasses x) {
        Told told = new Told(x);
        told.add("bytes", x.many(8));
        told.add("rows", x.many(6));
        int rows = x.many(6);
        for (int i = 0; i < rows; i++) {
            if (i < ROWS_AT_EACH_END || i >= rows - ROWS_AT_EACH_END) {
                told.add("row", x.row(i, 0), x.row(i, 1), x.row(i, 2));
            }
        }
        told.add("check", x.check());
        return told.text.toString();
    }

    /** What THE TAPE has can only be told by using it up. */
    static String ofReading(RailPasses x) {
        Told told = new Told(x);
        told.add("read", x.read(2));
        told.laws();
        return told.text.toString();
    }

    private void add(String what, int... answers) {
        text.append(what);
        for (int answer : answers) {
            text.append(' ').append(answer);
        }
        text.append('\n');
    }

    private void counts() {
        for (int what = 0; what < 10; what++) {
            if (what != 6 && what != 8) {
                add("many " + what, x.many(what));
            }
        }
    }

    private void land() {
        for (int train = 0; train < x.many(1); train++) {
            add("train", x.of(train, 0), x.of(train, 1), x.of(train, 3), x.of(train, 4), x.of(train, 5), x.of(train, 6),
                x.of(train, 7));
        }
        for (int a = 0; a < 4; a++) {
            add("way", x.miles(a, a + 1), x.way(a, a + 1), x.way(0, a));
        }
    }

    private void laws() {
        for (int law = 0; law < 3; law++) {
            for (int what = 0; what < 11; what++) {
                add("law", x.law(law, what));
            }
        }
    }

    private void passes() {
        for (int pass = 0; pass < x.many(3); pass++) {
            for (int what = 0; what < 9; what++) {
                add("pass", x.pass(pass, what));
            }
        }
        for (int ride = 0; ride < x.many(4); ride++) {
            add("ride", x.rideOf(ride, 0), x.rideOf(ride, 1), x.rideOf(ride, 2), x.rideOf(ride, 3), x.rideOf(ride, 4));
        }
    }

    private void wishes() {
        for (int what = 0; what < 15; what++) {
            add("choice", x.choice(what));
        }
        add("least", x.least(0, 0), x.least(0, 3), x.least(1, 3));
    }

    private void scans() {
        int today = x.many(9);
        for (int pass = 0; pass < Math.min(2, x.many(3)); pass++) {
            add("ridden", x.ridden(pass, 0, 0), x.ridden(pass, today, 0), x.ridden(pass, today, 1), x.ridden(pass, today, 2),
                x.ridden(pass, today, 3), x.ridden(pass, today, 4), x.part(pass, 0, today));
        }
        for (int railway = 0; railway < 5; railway++) {
            add("account", x.account(railway, today));
        }
    }
}
