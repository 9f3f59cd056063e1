/** Part 5 of the document (SCANS and PARTS), and promises 25 to 31. */
final class ScanSentences extends SentenceTests {
    ScanSentences(Sentences sentences) {
        super(sentences);
    }

    @Override
    void all() {
        section("Terms");
        scansAtMost();
        scansOf();
        knownFrom();
        scansOfOnePass();
        scanOrder();
        legsOfOneDay();
        legsUnlikeStations();
        wayLeastMiles();
        wayLeastNumber();
        wayNone();
        doubted();
        milesOfARailway();
        partsByMiles();
        partsRests();
        partsEvenRests();
        partsWithoutMiles();
        section("Promise 25");
        scans();
        scanRefused();
        section("Promise 26");
        milesBetween();
        milesRefused();
        section("Promise 27");
        wayLines();
        wayRefused();
        section("Promise 28");
        riddenOf();
        riddenRefused();
        section("Promise 29");
        partOf();
        partRefused();
        section("Promise 30");
        accountOf();
        accountRefused();
        section("Promise 31");
        manyOf();
        manyRefused();
    }

    /** Two PASSES of a PRICE: 0 for no CHILD, 1 for a CHILD (half of it). */
    private static RailPasses sold(RailPasses x, int price) {
        Due.read(x, 0, "days 2 of 2;price " + price + ";child 50;refund 100;lost 50;");
        x.sell(0, 0, false);
        x.sell(0, 0, true);
        return x;
    }

    private void riddenIs(String when, RailPasses x, int k, int... want) {
        row(when + ": ridden(0, " + k + ", #)", what -> x.ridden(0, k, what), want);
    }

    private void partsAre(String when, RailPasses x, int k, int... want) {
        row(when + ": part(0, #, " + k + ")", railway -> x.part(0, railway, k), want);
    }

    private void scansAtMost() {
        says("SCANS are numbered from 0 as they come, 40 at most:");
        RailPasses x = sold(Lands.row(1, 1), 1);
        for (int i = 0; i < 40; i++) {
            is("scan " + i, x.scan(0, 0, 10 * i, i % 2), i);
        }
        is("scan 40", x.scan(0, 0, 0, 0), FULL);
        is("scan 40 of another PASS", x.scan(1, 0, 0, 0), FULL);
        is("scans", x.many(7), 40);
        riddenIs("39 LEGS", x, 0, 39, 0, 0, 39, 39, 0, 0, 0, 0);
    }

    private void scansOf() {
        says("of a PASS, on a DAY at a minute at a STATION;");
        RailPasses x = new RailPasses();
        x.line(0, 9, 4, 300, false);
        sold(x, 1);
        refusesOutside(0, 1, "scan of #", v -> x.scan(v, 0, 0, 0));
        refusesOutside(0, 0, "scan on #", v -> x.scan(0, v, 0, 0));
        refusesOutside(0, 1439, "scan at minute #", v -> x.scan(0, 0, v, 0));
        refusesOutside(0, 9, "scan at station #", v -> x.scan(0, 0, 0, v));
        is("scan at 0:00", x.scan(0, 0, 0, 9), 0);
        is("scan at 23:59", x.scan(0, 0, 1439, 0), 1);
        riddenIs("from 9 to 0", x, 0, 1, 0, 0, 300, 0, 0, 0, 0, 300);
        is("the other PASS has none", x.ridden(1, 0, 0), 0);
    }

    private void knownFrom() {
        says("each is KNOWN from the TODAY on when it came (which is its DAY or later).");
        RailPasses x = sold(Lands.row(10), 1);
        x.scan(0, 0, 0, 0);
        x.days(3);
        is("of DAY 0, on DAY 3", x.scan(0, 0, 100, 1), 1);
        x.days(1);
        row("LEGS as KNOWN on #", k -> x.ridden(0, k, 0), 0, 0, 0, 1, 1);
        is("of TODAY", x.scan(0, 4, 100, 1), 2);
        is("of tomorrow", x.scan(0, 5, 100, 1), NUMBER);
        // One that comes late may part a LEG that was KNOWN as one, and be no LEG itself.
        RailPasses y = sold(Lands.row(10, 10), 1);
        y.scan(0, 0, 0, 0);
        y.scan(0, 0, 100, 2);
        y.days(1);
        y.scan(0, 0, 50, 1);
        y.days(1);
        y.scan(0, 0, 60, 1);
        row("LEGS as KNOWN on #", k -> y.ridden(0, k, 0), 1, 2, 2);
        // The greatest DAY there is.
        RailPasses z = sold(Lands.row(10), 1);
        for (int i = 0; i < 6; i++) {
            z.days(20);
        }
        z.scan(0, 120, 0, 0);
        z.scan(0, 120, 1439, 1);
        is("not KNOWN on 119", z.ridden(0, 119, 0), 0);
        is("KNOWN on 120", z.ridden(0, 120, 0), 1);
    }

    private void scansOfOnePass() {
        says("As KNOWN on DAY k, SCANS of a PASS that are KNOWN on k,");
        RailPasses x = sold(Lands.row(10, 10), 1);
        x.scan(0, 0, 0, 0);
        x.scan(1, 0, 50, 1);
        x.scan(0, 0, 100, 2);
        x.scan(1, 0, 150, 2);
        riddenIs("0 to 2", x, 0, 1, 0, 0, 20, 10, 10, 0, 0, 0);
        row("of the other: #", what -> x.ridden(1, 0, what), 1, 0, 0, 10, 0, 10, 0, 0, 0);
        x.days(1);
        x.scan(0, 0, 200, 0);
        is("not KNOWN the day before", x.ridden(0, 0, 0), 1);
        is("KNOWN then", x.ridden(0, 1, 0), 2);
    }

    private void scanOrder() {
        says("by DAYS, then by minutes, then by numbers:");
        // By the numbers alone it would be 0, 2, 0, 2, of which each LEG has 20 MILES.
        RailPasses x = sold(Lands.row(10, 10), 1);
        x.days(1);
        x.scan(0, 1, 5, 0);
        x.scan(0, 0, 900, 2);
        x.scan(0, 1, 100, 0);
        x.scan(0, 0, 800, 2);
        riddenIs("by DAYS", x, 1, 0, 0, 0, 0, 0, 0, 0, 0, 0);
        RailPasses y = sold(Lands.row(10, 10), 1);
        y.scan(0, 0, 300, 2);
        y.scan(0, 0, 100, 0);
        y.scan(0, 0, 200, 1);
        riddenIs("by minutes", y, 0, 2, 0, 0, 20, 10, 10, 0, 0, 0);
        // Of one minute: 1, then 0 (by numbers); then 1 a while later: two LEGS, the first without time.
        RailPasses z = sold(Lands.row(10, 10), 1);
        z.scan(0, 0, 100, 1);
        z.scan(0, 0, 100, 0);
        z.scan(0, 0, 150, 1);
        riddenIs("by numbers", z, 0, 2, 0, 1, 10, 10, 0, 0, 0, 0);
        RailPasses v = sold(Lands.row(10, 10), 1);
        v.scan(0, 0, 150, 1);
        v.scan(0, 0, 100, 0);
        v.scan(0, 0, 100, 1);
        riddenIs("by numbers, the other way about", v, 0, 1, 0, 1, 0, 0, 0, 0, 0, 0);
        // By numbers even if one came later than the other.
        v.days(1);
        v.scan(0, 0, 150, 2);
        riddenIs("one more", v, 1, 2, 0, 2, 0, 0, 0, 0, 0, 0);
    }

    private void legsOfOneDay() {
        says("of each two of one DAY that follow one another there is a LEG");
        RailPasses x = sold(Lands.row(10, 10), 1);
        is("no SCAN", x.ridden(0, 0, 0), 0);
        x.scan(0, 0, 1439, 0);
        is("one SCAN", x.ridden(0, 0, 0), 0);
        x.days(1);
        x.scan(0, 1, 0, 1);
        riddenIs("over midnight is none", x, 1, 0, 0, 0, 0, 0, 0, 0, 0, 0);
        x.scan(0, 1, 20, 2);
        riddenIs("two of a DAY", x, 1, 1, 0, 0, 10, 0, 10, 0, 0, 0);
        x.scan(0, 1, 40, 0);
        riddenIs("three of a DAY", x, 1, 2, 0, 0, 30, 10, 20, 0, 0, 0);
        x.scan(0, 0, 1400, 1);
        riddenIs("two of the other", x, 1, 3, 0, 0, 40, 20, 20, 0, 0, 0);
    }

    private void legsUnlikeStations() {
        says("(if they are at unlike STATIONS):");
        RailPasses x = sold(Lands.row(10, 10), 1);
        x.scan(0, 0, 0, 1);
        x.scan(0, 0, 50, 1);
        x.scan(0, 0, 50, 1);
        riddenIs("three at one STATION", x, 0, 0, 0, 0, 0, 0, 0, 0, 0, 0);
        // The later one of them is where the LEG begins: 4 minutes bear 12 MILES, 3 don't bear 10.
        x.scan(0, 0, 54, 2);
        riddenIs("from the last of them", x, 0, 1, 0, 0, 10, 0, 10, 0, 0, 0);
        x.scan(0, 0, 51, 1);
        riddenIs("from a later one", x, 0, 1, 0, 1, 0, 0, 0, 0, 0, 0);
        // A STATION to which no LINE goes, twice.
        RailPasses y = sold(Lands.row(10), 1);
        y.scan(0, 0, 0, 9);
        y.scan(0, 0, 50, 9);
        riddenIs("at one without LINES", y, 0, 0, 0, 0, 0, 0, 0, 0, 0, 0);
    }

    private void wayLeastMiles() {
        says("the WAY between them, the one over LINES with the least MILES together;");
        RailPasses x = new RailPasses();
        x.line(0, 3, 0, 300, false);
        x.line(0, 1, 1, 100, false);
        x.line(1, 2, 2, 100, true);
        x.line(2, 3, 3, 99, false);
        is("three LINES", x.miles(0, 3), 299);
        is("three LINES", x.way(0, 3), 14);
        sold(x, 1);
        x.scan(0, 0, 0, 3);
        x.scan(0, 0, 1000, 0);
        riddenIs("three LINES", x, 0, 1, 0, 0, 299, 0, 100, 100, 99, 0);
        // A LINE that comes later changes the WAY of LEGS that were there.
        x.line(3, 0, 4, 298, false);
        is("one LINE", x.way(3, 0), 16);
        riddenIs("one LINE", x, 0, 1, 0, 0, 298, 0, 0, 0, 0, 298);
        // The longest WAY: nine LINES of 300 MILES.
        RailPasses y = new RailPasses();
        for (int s = 9; s > 0; s--) {
            y.line(s, s - 1, 0, 300, false);
        }
        is("2700 MILES", y.miles(0, 9), 2700);
        is("nine LINES", y.way(9, 0), 511);
        is("eight of them", y.way(8, 0), 510);
    }

    private void wayLeastNumber() {
        says("of several the one whose LINES, as bits together, are the least number;");
        RailPasses x = new RailPasses();
        x.line(0, 1, 0, 5, false);
        x.line(1, 2, 0, 5, false);
        x.line(2, 3, 0, 5, false);
        x.line(0, 3, 0, 15, false);
        is("three LINES of lesser numbers", x.way(0, 3), 7);
        is("and back", x.way(3, 0), 7);
        RailPasses y = new RailPasses();
        y.line(0, 3, 0, 15, false);
        y.line(0, 1, 0, 5, false);
        y.line(1, 2, 0, 5, false);
        y.line(2, 3, 0, 5, false);
        y.line(3, 0, 0, 15, false);
        is("one LINE of a lesser number", y.way(0, 3), 1);
        // Of two ways that part and meet, the greatest LINE decides.
        RailPasses z = new RailPasses();
        z.line(0, 1, 0, 5, false);
        z.line(0, 2, 0, 5, false);
        z.line(2, 3, 0, 5, false);
        z.line(1, 3, 0, 5, false);
        is("0 and 3, or 1 and 2", z.way(0, 3), 6);
        is("1 to 2 by 0 and 1", z.way(1, 2), 3);
        // Fourteen of the same: the first and the last.
        RailPasses v = new RailPasses();
        for (int i = 0; i < 13; i++) {
            v.line(0, 1, 0, 5, false);
        }
        v.line(1, 2, 0, 5, false);
        is("the first and the last", v.way(0, 2), 1 | 1 << 13);
    }

    private void wayNone() {
        says("none, if there is no WAY.");
        RailPasses x = sold(new RailPasses(), 1);
        x.line(0, 1, 0, 1, false);
        x.line(2, 3, 0, 1, false);
        is("way", x.way(0, 2), NONE);
        x.scan(0, 0, 0, 0);
        x.scan(0, 0, 1000, 2);
        riddenIs("a LEG without a WAY", x, 0, 1, 1, 0, 0, 0, 0, 0, 0, 0);
        x.line(1, 2, 4, 1, false);
        riddenIs("it has one now", x, 0, 1, 0, 0, 2, 1, 0, 0, 0, 1);
    }

    private void doubted() {
        says("A LEG is DOUBTED, if it has a WAY of more MILES than 3 times the minutes between.");
        int[][] told = {{1, 0, 1}, {1, 1, 0}, {3, 1, 0}, {4, 1, 1}, {300, 100, 0}, {300, 99, 1}, {299, 100, 0}, {297, 99, 0}, {298, 99, 1}};
        for (int[] t : told) {
            RailPasses x = sold(Lands.row(t[0]), 1);
            x.scan(0, 0, 7, 0);
            x.scan(0, 0, 7 + t[1], 1);
            int miles = t[2] == 1 ? 0 : t[0];
            riddenIs(t[0] + " MILES in " + t[1], x, 0, 1, 0, t[2], miles, miles, 0, 0, 0, 0);
        }
        // The whole WAY counts, not its LINES one by one; without a WAY there is no doubt.
        RailPasses y = sold(Lands.row(30, 30), 1);
        y.scan(0, 0, 0, 0);
        y.scan(0, 0, 19, 2);
        riddenIs("60 MILES in 19", y, 0, 1, 0, 1, 0, 0, 0, 0, 0, 0);
        y.scan(0, 0, 19, 7);
        riddenIs("no WAY, no time", y, 0, 2, 1, 1, 0, 0, 0, 0, 0, 0);
    }

    private void milesOfARailway() {
        says("MILES of a RAILWAY by a PASS: those of its LINES in all WAYS of LEGS that are not DOUBTED.");
        RailPasses x = new RailPasses();
        x.line(0, 1, 4, 10, false);
        x.line(1, 2, 4, 20, true);
        x.line(2, 3, 0, 30, false);
        sold(x, 1);
        x.scan(0, 0, 0, 0);
        x.scan(0, 0, 100, 3);
        x.scan(0, 0, 200, 1);
        riddenIs("0 to 3 to 1", x, 0, 2, 0, 0, 110, 60, 0, 0, 0, 50);
        x.scan(0, 0, 200, 3);
        riddenIs("and 3, DOUBTED", x, 0, 3, 0, 1, 110, 60, 0, 0, 0, 50);
    }

    private RailPasses riddenRow(int price, int... miles) {
        RailPasses x = sold(Lands.row(miles), price);
        x.scan(0, 0, 0, 0);
        x.scan(0, 0, 1439, miles.length);
        return x;
    }

    private void partsByMiles() {
        says("PARTS: what the PASS COSTS, parted by these MILES: each RAILWAY gets COSTS times its MILES by all MILES, the rest away;");
        partsAre("100 by 25 and 75", riddenRow(100, 25, 75), 0, 25, 75, 0, 0, 0);
        partsAre("999 by one", riddenRow(999, 300), 0, 999, 0, 0, 0, 0);
        partsAre("999 by one MILE", riddenRow(999, 1), 0, 999, 0, 0, 0, 0);
        RailPasses mile = new RailPasses();
        mile.line(0, 1, 3, 1, false);
        sold(mile, 999);
        mile.scan(0, 0, 0, 0);
        mile.scan(0, 0, 1, 1);
        partsAre("999 by one MILE of RAILWAY 3", mile, 0, 0, 0, 0, 999, 0);
        partsAre("0 by two", riddenRow(0, 10, 20), 0, 0, 0, 0, 0, 0);
        partsAre("15 by five", riddenRow(15, 1, 2, 3, 4, 5), 0, 1, 2, 3, 4, 5);
        RailPasses x = riddenRow(100, 25, 75);
        row("of a CHILD without SCANS", railway -> x.part(1, railway, 0), 50, 0, 0, 0, 0);
        // As many MILES as may be: 39 LEGS of 2700.
        RailPasses y = new RailPasses();
        for (int s = 0; s < 9; s++) {
            y.line(s, s + 1, s % 5, 300, false);
        }
        sold(y, 999);
        for (int i = 0; i < 40; i++) {
            y.scan(0, 0, 30 * i, i % 2 * 9);
        }
        is("each LEG is DOUBTED", y.ridden(0, 0, 2), 39);
        RailPasses z = new RailPasses();
        for (int s = 0; s < 9; s++) {
            z.line(s, s + 1, s % 5, 300, false);
        }
        sold(z, 999);
        z.days(20);
        for (int i = 0; i < 40; i++) {
            z.scan(0, i / 2, 1000 * (i % 2), i % 2 * 9);
        }
        riddenIs("20 LEGS of 2700", z, 20, 20, 0, 0, 54000, 12000, 12000, 12000, 12000, 6000);
        partsAre("20 LEGS of 2700", z, 20, 222, 222, 222, 222, 111);
    }

    private void partsRests() {
        says("what is left goes, one by one, to those with the greatest rests (of what was cut away),");
        // By 15: 11, 22, 33, 44, 55 give 0, 1, 2, 2, 3 and rests of 11, 7, 3, 14, 10: three are left.
        partsAre("11 by 15", riddenRow(11, 1, 2, 3, 4, 5), 0, 1, 1, 2, 3, 4);
        // 13, 26, 39, 52, 65 give 0, 1, 2, 3, 4 and rests of 13, 11, 9, 7, 5: three are left.
        partsAre("13 by 15", riddenRow(13, 1, 2, 3, 4, 5), 0, 1, 2, 3, 3, 4);
        // 2, 4, 6, 8, 10 give nothing: two are left, for the rests of 10 and 8.
        partsAre("2 by 15", riddenRow(2, 1, 2, 3, 4, 5), 0, 0, 0, 0, 1, 1);
        partsAre("1 by 15", riddenRow(1, 1, 2, 3, 4, 5), 0, 0, 0, 0, 0, 1);
        // The rest decides, neither the MILES nor what was given already: 6 and 2 or 8 and 2 of 40 by 3 and 1.
        partsAre("9 by 3 and 1", riddenRow(9, 30, 10), 0, 7, 2, 0, 0, 0);
        partsAre("11 by 3 and 1", riddenRow(11, 30, 10), 0, 8, 3, 0, 0, 0);
        partsAre("7 by 9 and 1", riddenRow(7, 9, 1), 0, 6, 1, 0, 0, 0);
    }

    private void partsEvenRests() {
        says("of several to the lesser RAILWAY.");
        partsAre("9 by five", riddenRow(9, 7, 7, 7, 7, 7), 0, 2, 2, 2, 2, 1);
        partsAre("8 by five", riddenRow(8, 7, 7, 7, 7, 7), 0, 2, 2, 2, 1, 1);
        partsAre("6 by five", riddenRow(6, 7, 7, 7, 7, 7), 0, 2, 1, 1, 1, 1);
        partsAre("5 by five", riddenRow(5, 7, 7, 7, 7, 7), 0, 1, 1, 1, 1, 1);
        partsAre("1 by two", riddenRow(1, 7, 7), 0, 1, 0, 0, 0, 0);
        // By 15: 10, 20, 30, 40, 50 have rests of 10, 5, 0, 10, 5: two are left, for 0 and 3.
        partsAre("10 by 15", riddenRow(10, 1, 2, 3, 4, 5), 0, 1, 1, 2, 3, 3);
        // 4, 8, 12, 16, 20 have rests of 4, 8, 12, 1, 5: two are left, for 2 and 1.
        partsAre("4 by 15", riddenRow(4, 1, 2, 3, 4, 5), 0, 0, 1, 1, 1, 1);
        // The lesser RAILWAY, not the LINE that came first: RAILWAYS 4, 2 and 1.
        RailPasses x = new RailPasses();
        x.line(0, 1, 4, 10, false);
        x.line(1, 2, 2, 10, false);
        x.line(2, 3, 1, 10, false);
        sold(x, 101);
        x.scan(0, 0, 0, 0);
        x.scan(0, 0, 100, 3);
        partsAre("101 by three", x, 0, 0, 34, 34, 0, 33);
    }

    private void partsWithoutMiles() {
        says("Without any MILES all goes to RAILWAY 0.");
        RailPasses x = sold(Lands.row(10, 10), 999);
        partsAre("no SCAN", x, 0, 999, 0, 0, 0, 0);
        x.scan(0, 0, 0, 1);
        partsAre("one SCAN", x, 0, 999, 0, 0, 0, 0);
        x.scan(0, 0, 0, 2);
        partsAre("a LEG that is DOUBTED", x, 0, 999, 0, 0, 0, 0);
        x.scan(0, 0, 100, 9);
        partsAre("and one without a WAY", x, 0, 999, 0, 0, 0, 0);
        x.scan(0, 0, 110, 1);
        x.scan(0, 0, 210, 2);
        partsAre("and one with MILES", x, 0, 0, 999, 0, 0, 0);
    }

    private void scans() {
        says("A SCAN: its number.");
        RailPasses x = sold(Lands.row(10), 1);
        is("first", x.scan(0, 0, 5, 0), 0);
        is("refused", x.scan(0, 1, 5, 0), NUMBER);
        is("of another PASS", x.scan(1, 0, 5, 0), 1);
        is("the same again", x.scan(1, 0, 5, 0), 2);
        is("scans", x.many(7), 3);
    }

    private void scanRefused() {
        says("NUMBER: there is no such PASS, STATION, DAY isn't 0 to TODAY, or minute not 0 to 1439; FULL.");
        RailPasses x = sold(Lands.row(10), 1);
        x.days(3);
        for (int round = 0; round < 2; round++) {
            refusesOutside(0, 1, "scan(#, 0, 0, 0)", v -> x.scan(v, 0, 0, 0));
            refusesOutside(0, 3, "scan(0, #, 0, 0)", v -> x.scan(0, v, 0, 0));
            refusesOutside(0, 1439, "scan(0, 0, #, 0)", v -> x.scan(0, 0, v, 0));
            refusesOutside(0, 9, "scan(0, 0, 0, #)", v -> x.scan(0, 0, 0, v));
            for (int i = 0; i < 40 && round == 0; i++) {
                is("scan " + i, x.scan(i % 2, i % 4, i % 2 * 1439, i % 10), i);
            }
        }
        is("full", x.scan(0, 0, 0, 0), FULL);
        is("scans", x.many(7), 40);
    }

    private void milesBetween() {
        says("MILES of the WAY between two STATIONS.");
        RailPasses x = Lands.land();
        is("miles(0, 1)", x.miles(0, 1), 100);
        is("miles(1, 0)", x.miles(1, 0), 100);
        is("miles(0, 2)", x.miles(0, 2), 150);
        x.line(2, 0, 0, 149, false);
        is("one less", x.miles(0, 2), 149);
        x.line(8, 9, 0, 1, false);
        is("miles(9, 8)", x.miles(9, 8), 1);
    }

    private void milesRefused() {
        says("NUMBER: there is no such STATION (either); NONE: there is none (0 of one and itself).");
        RailPasses x = Lands.land();
        refusesOutside(0, 9, "miles(#, 0)", v -> x.miles(v, 0));
        refusesOutside(0, 9, "miles(0, #)", v -> x.miles(0, v));
        refusesOutside(0, 9, "miles(#, #)", v -> x.miles(v, v));
        refusesOutside(0, 9, "miles(#, 9)", v -> x.miles(v, 9));
        for (int s = 0; s < 10; s++) {
            is("miles of " + s + " and itself", x.miles(s, s), 0);
            is("miles(" + s + ", 9)", x.miles(s, 9), s == 9 ? 0 : NONE);
            is("miles(9, " + s + ")", x.miles(9, s), s == 9 ? 0 : NONE);
        }
    }

    private void wayLines() {
        says("Its LINES, as bits.");
        RailPasses x = Lands.land();
        is("way(0, 1)", x.way(0, 1), 1);
        is("way(2, 1)", x.way(2, 1), 2);
        is("way(0, 2)", x.way(0, 2), 3);
        is("way(2, 0)", x.way(2, 0), 3);
        for (int i = 3; i < 14; i++) {
            x.line(8, 9, 0, 300 - i, false);
            is("way(9, 8) over " + i, x.way(9, 8), 1 << i);
        }
        is("way(0, 2) still", x.way(0, 2), 3);
    }

    private void wayRefused() {
        says("NUMBER, NONE likewise.");
        RailPasses x = Lands.land();
        refusesOutside(0, 9, "way(#, 0)", v -> x.way(v, 0));
        refusesOutside(0, 9, "way(0, #)", v -> x.way(0, v));
        refusesOutside(0, 9, "way(#, #)", v -> x.way(v, v));
        for (int s = 0; s < 10; s++) {
            is("way of " + s + " and itself", x.way(s, s), 0);
            is("way(" + s + ", 9)", x.way(s, 9), s == 9 ? 0 : NONE);
            is("way(9, " + s + ")", x.way(9, s), s == 9 ? 0 : NONE);
        }
    }

    private void riddenOf() {
        says("Of a PASS, as KNOWN on DAY k: what = 0 LEGS, 1 those without a WAY, 2 those that are DOUBTED, 3 all MILES, "
            + "4 + r MILES of RAILWAY r.");
        RailPasses x = sold(Lands.row(10, 20, 30, 40, 50), 1);
        riddenIs("nothing", x, 0, 0, 0, 0, 0, 0, 0, 0, 0, 0);
        x.scan(0, 0, 0, 0);
        x.scan(0, 0, 50, 5);
        x.scan(0, 0, 60, 9);
        x.scan(0, 0, 70, 5);
        x.scan(0, 0, 80, 3);
        riddenIs("all of it", x, 0, 4, 2, 1, 150, 10, 20, 30, 40, 50);
        x.days(1);
        x.scan(0, 0, 90, 4);
        riddenIs("on the next DAY", x, 1, 5, 2, 2, 150, 10, 20, 30, 40, 50);
        x.scan(0, 0, 120, 3);
        riddenIs("one LEG more", x, 1, 6, 2, 2, 190, 10, 20, 30, 80, 50);
        riddenIs("as KNOWN the day before", x, 0, 4, 2, 1, 150, 10, 20, 30, 40, 50);
    }

    private void riddenRefused() {
        says("NUMBER: there is no such PASS, another what, or k isn't 0 to TODAY.");
        RailPasses x = sold(Lands.row(10), 1);
        for (int today = 0; today <= 120; today += 20) {
            refusesOutside(0, today, "ridden(0, #, 0)", v -> x.ridden(0, v, 0));
            refusesOutside(0, 1, "ridden(#, 0, 0)", v -> x.ridden(v, 0, 0));
            refusesOutside(0, 8, "ridden(1, 0, #)", v -> x.ridden(1, 0, v));
            is("ridden on TODAY", x.ridden(1, today, 8), 0);
            x.days(20);
        }
        is("no PASS at all", new RailPasses().ridden(0, 0, 0), NUMBER);
    }

    private void partOf() {
        says("The PART of a RAILWAY of a PASS, as KNOWN on DAY k.");
        RailPasses x = sold(Lands.row(10, 30), 100);
        x.days(1);
        x.scan(0, 0, 0, 0);
        x.scan(0, 0, 100, 2);
        x.days(1);
        x.scan(0, 2, 0, 0);
        x.scan(0, 2, 100, 1);
        partsAre("nothing KNOWN", x, 0, 100, 0, 0, 0, 0);
        partsAre("10 and 30", x, 1, 25, 75, 0, 0, 0);
        partsAre("20 and 30", x, 2, 40, 60, 0, 0, 0);
        row("of the other PASS, RAILWAY #", railway -> x.part(1, railway, 2), 50, 0, 0, 0, 0);
        // A PASS that is LOST is parted all the same.
        x.lose(0);
        partsAre("LOST", x, 2, 40, 60, 0, 0, 0);
    }

    private void partRefused() {
        says("NUMBER: there is no such PASS, RAILWAY, or k isn't 0 to TODAY.");
        RailPasses x = sold(Lands.row(10), 1);
        x.days(5);
        refusesOutside(0, 1, "part(#, 0, 0)", v -> x.part(v, 0, 0));
        refusesOutside(0, 4, "part(0, #, 0)", v -> x.part(0, v, 0));
        refusesOutside(0, 5, "part(0, 0, #)", v -> x.part(0, 0, v));
        is("part(1, 4, 5)", x.part(1, 4, 5), 0);
        is("no PASS at all", new RailPasses().part(0, 0, 0), NUMBER);
    }

    private void accountOf() {
        says("All PARTS of a RAILWAY, of all PASSES, as KNOWN on DAY k, less what REFUNDS of LOST ones cost it: "
            + "of each these are parted as what the PASS COSTS is.");
        is("no PASS", new RailPasses().account(0, 0), 0);
        RailPasses x = sold(Lands.row(100, 50), 100);
        x.days(1);
        x.scan(0, 1, 0, 0);
        x.scan(0, 1, 400, 2);
        row("on DAY 0: account(#)", r -> x.account(r, 0), 150, 0, 0, 0, 0);
        row("on DAY 1: account(#)", r -> x.account(r, 1), 67 + 50, 33, 0, 0, 0);
        // REFUNDS of PASSES that are not LOST do not count. Of 50, 33 and 17 are for 100 and 50 MILES.
        is("lose", x.lose(0), 50);
        row("lost: account(#)", r -> x.account(r, 1), 67 - 33 + 50, 33 - 17, 0, 0, 0);
        row("lost, on DAY 0: account(#)", r -> x.account(r, 0), 100 - 50 + 50, 0, 0, 0, 0);
        is("lose the other", x.lose(1), 25);
        row("both lost: account(#)", r -> x.account(r, 1), 67 - 33 + 50 - 25, 33 - 17, 0, 0, 0);
        // A REFUND changes with the COUNTED DAYS: of 100 for one of two DAYS 25 are left, 17 and 8.
        RailPasses y = sold(Lands.row(100, 50), 100);
        y.train(0, true, 0, 1, false, 0);
        y.ride(0, 0, 0);
        y.scan(0, 0, 0, 0);
        y.scan(0, 0, 400, 2);
        y.lose(0);
        row("a DAY spent: account(#)", r -> y.account(r, 0), 67 - 17 + 50, 33 - 8, 0, 0, 0);
        // Eight PASSES.
        RailPasses z = sold(Lands.row(10), 999);
        for (int i = 2; i < 8; i++) {
            z.sell(0, 0, false);
        }
        is("of eight", z.account(0, 0), 7 * 999 + 499);
        // By the rests a REFUND may cost a RAILWAY more than it gets: 4 and 3 by 1, 3 and 3.
        RailPasses v = Lands.row(1, 3, 3);
        Due.read(v, 0, "days 1 of 1;price 4;lost 75;");
        v.sell(0, 0, false);
        v.scan(0, 0, 0, 0);
        v.scan(0, 0, 400, 3);
        row("4 by 1, 3 and 3: account(#)", r -> v.account(r, 0), 0, 2, 2, 0, 0);
        is("REFUND", v.lose(0), 3);
        row("less 3 by 1, 3 and 3: account(#)", r -> v.account(r, 0), -1, 1, 1, 0, 0);
    }

    private void accountRefused() {
        says("NUMBER: there is no such RAILWAY, or k isn't 0 to TODAY.");
        RailPasses x = sold(Lands.row(10), 1);
        x.days(5);
        refusesOutside(0, 4, "account(#, 0)", v -> x.account(v, 0));
        refusesOutside(0, 5, "account(0, #)", v -> x.account(0, v));
        is("account(4, 5)", x.account(4, 5), 0);
        refusesOutside(0, 4, "account(#, 0) without a PASS", v -> new RailPasses().account(v, 0));
        refusesOutside(0, 0, "account(0, #) without a PASS", v -> new RailPasses().account(0, v));
    }

    private void manyOf() {
        says("How many: what = 0 LINES, 1 TRAINS, 2 LAWS that were read, 3 PASSES, 4 RIDES, 5 WISHES, 6 ROWS, 7 SCANS, "
            + "8 bytes of THE TAPE, 9 TODAY.");
        RailPasses x = new RailPasses();
        row("many(#) of a new one", x::many, 0, 0, 0, 0, 0, 0, 0, 0, 0, 0);
        for (int i = 0; i < 14; i++) {
            x.line(0, 1, 0, 1, false);
        }
        for (int i = 0; i < 16; i++) {
            x.train(0, true, 0, 1, false, 9);
        }
        for (int law = 0; law < 3; law++) {
            Due.read(x, law, "days 1 of 60;price 5;");
        }
        for (int i = 0; i < 8; i++) {
            x.sell(0, 0, false);
        }
        for (int i = 0; i < 40; i++) {
            x.ride(0, 0, 0);
            x.scan(0, 0, 0, 0);
        }
        for (int i = 0; i < 10; i++) {
            x.wish(0, 59);
        }
        x.prove();
        for (int i = 0; i < 6; i++) {
            x.days(20);
        }
        Due.feed(x, " ".repeat(300));
        row("many(#) of a full one", x::many, 14, 16, 3, 8, 40, 10, 180, 40, 300, 120);
        // Read twice is one LAW; a TEXT with a FAULT is none.
        RailPasses y = new RailPasses();
        Due.read(y, 1, "days 1 of 1;price 1;");
        Due.read(y, 1, "days 1 of 1;price 1;");
        Due.read(y, 2, "x");
        is("one LAW", y.many(2), 1);
        Due.read(y, 1, "x");
        is("one LAW still", y.many(2), 1);
    }

    private void manyRefused() {
        says("NUMBER: another what.");
        RailPasses x = Lands.sold("days 1 of 1;price 1;", 0);
        refusesOutside(0, 9, "many(#)", x::many);
        x.days(7);
        is("many(9)", x.many(9), 7);
    }
}
