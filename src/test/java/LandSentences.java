/** Part 1 of the document (THE LAND), and promises 1 to 5. */
final class LandSentences extends SentenceTests {
    LandSentences(Sentences sentences) {
        super(sentences);
    }

    @Override
    void all() {
        section("What it is");
        land();
        callsOfAnObject();
        section("Terms");
        linesAtMost();
        linesBothWays();
        lineMiles();
        trainsAtMost();
        trainsEachDay();
        departsAndTakes();
        overMidnight();
        fares();
        quotas();
        quotasThatCount();
        dayNumbers();
        today();
        section("Promise 1");
        newObject();
        section("Promise 2");
        lineNumber();
        lineRefused();
        section("Promise 3");
        trainNumber();
        trainFare();
        trainRefused();
        section("Promise 4");
        ofATrain();
        ofRefused();
        section("Promise 5");
        daysGoOn();
        daysRefused();
    }

    private void land() {
        says("THE LAND has STATIONS 0 to 9 and RAILWAYS 0 to 4.");
        RailPasses x = new RailPasses();
        for (int s = 0; s < 10; s++) {
            is("line from " + s, x.line(s, (s + 1) % 10, s % 5, 1 + s, false), s);
        }
        for (int s = 0; s < 9; s++) {
            is("miles from " + s, x.miles(s, s + 1), 1 + s);
        }
        refusesOutside(0, 9, "line(#, 1)", v -> x.line(v, 1, 0, 1, false));
        refusesOutside(0, 9, "line(1, #)", v -> x.line(1, v, 0, 1, false));
        refusesOutside(0, 4, "line of RAILWAY #", v -> x.line(0, 1, v, 1, false));
        is("lines", x.many(0), 10);
    }

    private void callsOfAnObject() {
        says("An object is used for at most 512 calls after it has been made; what later calls answer is free.");
        RailPasses x = Lands.trains();
        // Eight calls made the TRAINS; five more make a LAW of "days1of1;price1;", a PASS and a WISH.
        x.feed(0x31666f3173796164L, 8);
        x.feed(0x3b3165636972703bL, 8);
        is("read", x.read(0), 2);
        x.sell(0, 0, false);
        x.wish(3, 0);
        for (int call = 14; call <= 510; call++) {
            x.days(0);
        }
        is("call 511", x.choice(0), 1);
        is("call 512", x.ride(0, 0, 0), 0);
    }

    private void linesAtMost() {
        says("LINES are numbered from 0 as they come, 14 at most");
        RailPasses x = new RailPasses();
        for (int i = 0; i < 14; i++) {
            is("train over a LINE not yet there", x.train(i, true, 0, 1, false, 0), NUMBER);
            is("line " + i, x.line(0, 1, 0, 300 - i, false), i);
        }
        is("line 14", x.line(0, 1, 0, 1, false), FULL);
        is("lines", x.many(0), 14);
        is("the shortest one is the last", x.way(0, 1), 1 << 13);
        is("train over the last", x.train(13, true, 0, 1, false, 0), 0);
        is("train over one more", x.train(14, true, 0, 1, false, 0), NUMBER);
    }

    private void linesBothWays() {
        says("between two STATIONS (both ways), of a RAILWAY");
        RailPasses x = new RailPasses();
        x.line(9, 0, 4, 7, false);
        is("miles(9, 0)", x.miles(9, 0), 7);
        is("miles(0, 9)", x.miles(0, 9), 7);
        x.train(0, true, 0, 1, false, 0);
        x.train(0, false, 0, 1, false, 0);
        is("forth from", x.of(0, 1), 9);
        is("back from", x.of(1, 1), 0);
        // Two LINES may go between the same STATIONS, the other way about too.
        is("line again", x.line(0, 9, 4, 7, false), 1);
        is("the lesser number", x.way(0, 9), 1);
    }

    private void lineMiles() {
        says("MILES (1 to 300), RAIL or a BOAT.");
        RailPasses x = new RailPasses();
        refusesOutside(1, 300, "line of # MILES", v -> x.line(0, 1, 0, v, false));
        refusesOutside(1, 300, "boat of # MILES", v -> x.line(0, 1, 0, v, true));
        is("no line", x.many(0), 0);
        is("line of 1", x.line(0, 1, 0, 1, false), 0);
        is("line of 300", x.line(1, 2, 0, 300, true), 1);
        is("miles 1", x.miles(0, 1), 1);
        is("miles 300", x.miles(1, 2), 300);
        x.train(0, true, 0, 1, false, 100);
        x.train(1, true, 0, 1, false, 100);
        Due.read(x, 0, "days 1 of 1;price 1;boat 10;");
        x.sell(0, 0, false);
        is("RAIL pays nothing", x.ride(0, 0, 0), 0);
        is("a BOAT does", x.ride(0, 1, 0), 10);
    }

    private void trainsAtMost() {
        says("TRAINS are numbered from 0 as they come, 16 at most");
        RailPasses x = Lands.land();
        for (int i = 0; i < 16; i++) {
            is("of a TRAIN not yet there", x.of(i, 0), NUMBER);
            is("wish for it", x.wish(i, 0), NUMBER);
            is("train " + i, x.train(i % 3, true, i, 1, false, 0), i);
        }
        is("train 16", x.train(0, true, 0, 1, false, 0), FULL);
        is("trains", x.many(1), 16);
        is("the last departs", x.of(15, 3), 15);
        is("wish for the last", x.wish(15, 0), 1);
        is("wish for one more", x.wish(16, 0), NUMBER);
    }

    private void trainsEachDay() {
        says("over a LINE, from one of its STATIONS to the other, each DAY");
        RailPasses x = Lands.sold("days 60 of 60;price 1;", 0);
        x.sell(0, 60, false);
        x.sell(0, 120, false);
        for (int day = 0; day <= 120; day++) {
            is("may on day " + day, x.may(day / 60, 0, day), 0);
        }
    }

    private void departsAndTakes() {
        says("it DEPARTS at a minute (0 to 1439) and TAKES 1 to 900 minutes");
        RailPasses x = Lands.land();
        refusesOutside(0, 1439, "train at #", v -> x.train(0, true, v, 1, false, 0));
        refusesOutside(1, 900, "train that takes #", v -> x.train(0, true, 0, v, false, 0));
        is("no train", x.many(1), 0);
        is("train at 0 takes 1", x.train(0, true, 0, 1, false, 0), 0);
        is("train at 1439 takes 900", x.train(0, true, 1439, 900, false, 0), 1);
        is("departs", x.of(0, 3), 0);
        is("takes", x.of(0, 4), 1);
        is("departs", x.of(1, 3), 1439);
        is("takes", x.of(1, 4), 900);
    }

    private void overMidnight() {
        says("it goes OVER MIDNIGHT if it arrives at minute 1440 or later");
        int[][] trains = {{1438, 1, 0}, {1439, 1, 1}, {540, 899, 0}, {539, 900, 0}, {540, 900, 1}, {0, 1, 0}, {0, 900, 0},
            {1439, 900, 1}, {1438, 2, 1}, {1438, 3, 1}};
        RailPasses x = Lands.land();
        for (int i = 0; i < trains.length; i++) {
            x.train(0, true, trains[i][0], trains[i][1], false, 0);
            is("at " + trains[i][0] + " takes " + trains[i][1], x.of(i, 8), trains[i][2]);
        }
    }

    private void fares() {
        says("FAST or not; FARE (0 to 500)");
        RailPasses x = Lands.land();
        for (int quota = 0; quota < 10; quota++) {
            for (int fare : new int[] {501, 502, 756, 999}) {
                is("fare " + fare + ", quota " + quota, x.train(0, true, 0, 1, true, 1000 * quota + fare), NUMBER);
            }
        }
        is("fare -1", x.train(0, true, 0, 1, true, -1), NUMBER);
        is("no train", x.many(1), 0);
        x.train(0, true, 0, 1, true, 0);
        x.train(0, true, 0, 1, false, 500);
        is("fare 0", x.of(0, 6), 0);
        is("fare 500", x.of(1, 6), 500);
        is("fast", x.of(0, 5), 1);
        is("not fast", x.of(1, 5), 0);
    }

    private void quotas() {
        says("QUOTA (0 to 9: how many RIDES by PASSES it bears each DAY it departs;");
        RailPasses x = Lands.land();
        refusesOutside(0, 9500, "fare and quota #", v -> x.train(0, true, 0, 1, true, v));
        is("quota 10", x.train(0, true, 0, 1, true, 10000), NUMBER);
        is("quota 10, fare 500", x.train(0, true, 0, 1, true, 10500), NUMBER);
        is("quota -1", x.train(0, true, 0, 1, true, -1000), NUMBER);
        is("quota -1, fare 500", x.train(0, true, 0, 1, true, -500), NUMBER);
        for (int quota = 0; quota < 10; quota++) {
            is("quota " + quota, x.train(0, true, 0, 1, true, 1000 * quota), quota);
            is("its quota", x.of(quota, 7), quota);
        }
        Due.read(x, 0, "days 2 of 2;price 1;");
        x.sell(0, 0, false);
        x.sell(0, 0, false);
        is("quota 0 bears none", x.ride(0, 0, 0), STATE);
        for (int i = 0; i < 9; i++) {
            is("quota 9 bears ride " + i, x.ride(i % 2, 9, 0), 0);
        }
        is("quota 9 bears no tenth", x.ride(0, 9, 0), STATE);
        is("of another PASS neither", x.ride(1, 9, 0), STATE);
        is("another DAY", x.ride(1, 9, 1), 0);
        is("another TRAIN", x.ride(1, 1, 0), 0);
        is("of which that was all", x.ride(1, 1, 0), STATE);
    }

    private void quotasThatCount() {
        says("only FAST ones have one that counts).");
        RailPasses x = Lands.land();
        x.train(0, true, 0, 1, false, 0);
        x.train(0, true, 0, 1, false, 1000);
        Due.read(x, 0, "days 1 of 1;price 1;");
        x.sell(0, 0, false);
        for (int i = 0; i < 3; i++) {
            is("not FAST, quota 0", x.ride(0, 0, 0), 0);
            is("not FAST, quota 1", x.ride(0, 1, 0), 0);
        }
        is("told all the same", x.of(1, 7), 1);
    }

    private void dayNumbers() {
        says("DAYS are 0 to 120.");
        RailPasses x = Lands.sold("days 60 of 60;price 1;", 0);
        x.sell(0, 61, false);
        refusesOutside(0, 120, "may on #", v -> x.may(0, 0, v));
        refusesOutside(0, 120, "ride on #", v -> x.ride(0, 0, v));
        refusesOutside(0, 120, "taken on #", v -> x.taken(0, v));
        refusesOutside(0, 120, "wish on #", v -> x.wish(0, v));
        refusesOutside(0, 120, "sell from #", v -> x.sell(0, v, false));
        refusesOutside(0, 120, "least from #", v -> x.least(0, v));
        is("ride on 0", x.ride(0, 0, 0), 0);
        is("ride on 120", x.ride(1, 0, 120), 0);
        is("taken on 0", x.taken(0, 0), 1);
        is("taken on 120", x.taken(0, 120), 1);
        is("wish on 0", x.wish(0, 0), 1);
        is("wish on 120", x.wish(0, 120), 2);
        is("sell from 0", x.sell(0, 0, false), 2);
        is("sell from 120", x.sell(0, 120, false), 3);
        is("least from 0", x.least(0, 0), 1 + 40);
        is("least from 120", x.least(0, 120), 1 + 40);
        for (int i = 0; i < 6; i++) {
            x.days(20);
        }
        is("TODAY may be 120", x.many(9), 120);
        is("but not 121", x.days(1), STATE);
    }

    private void today() {
        says("TODAY is a DAY (0 at first).");
        RailPasses x = Lands.sold("days 1 of 1;price 1;", 0);
        is("today", x.many(9), 0);
        is("scan today", x.scan(0, 0, 0, 0), 0);
        is("scan tomorrow", x.scan(0, 1, 0, 0), NUMBER);
        is("as known today", x.ridden(0, 0, 0), 0);
        is("as known tomorrow", x.ridden(0, 1, 0), NUMBER);
    }

    private void newObject() {
        says("No LINES, TRAINS, LAWS, PASSES; TODAY is 0; nothing is kept.");
        RailPasses x = new RailPasses();
        row("many(#)", x::many, 0, 0, 0, 0, 0, 0, 0, 0, 0, 0);
        is("no LINE", x.train(0, true, 0, 1, false, 0), NUMBER);
        is("no WAY", x.way(0, 1), NONE);
        is("no TRAIN", x.of(0, 0), NUMBER);
        row("law(#)", law -> x.law(law, 0), NONE, NONE, NONE);
        is("no PASS", x.pass(0, 0), NUMBER);
        is("no RIDE", x.rideOf(0, 0), NUMBER);
        is("no ROW", x.row(0, 0), NONE);
        is("nothing kept", x.back(), NONE);
        // An object knows nothing of another one.
        RailPasses other = Lands.sold("days 1 of 1;price 1;", 0);
        other.days(20);
        other.keep();
        RailPasses y = new RailPasses();
        row("many(#) of a second", y::many, 0, 0, 0, 0, 0, 0, 0, 0, 0, 0);
        is("nothing kept by a second", y.back(), NONE);
    }

    private void lineNumber() {
        says("A LINE: its number.");
        RailPasses x = new RailPasses();
        is("the first", x.line(0, 1, 0, 1, false), 0);
        is("refused", x.line(0, 0, 0, 1, false), NUMBER);
        is("the second", x.line(0, 1, 0, 1, false), 1);
    }

    private void lineRefused() {
        says("NUMBER: there is no such STATION (either), they are the same, there is no such RAILWAY, or miles aren't as told; FULL.");
        RailPasses x = new RailPasses();
        // Once with room, once FULL: NUMBER is the first one named.
        for (int round = 0; round < 2; round++) {
            refusesOutside(0, 9, "line(#, 0)", v -> x.line(v, 0, 0, 1, false));
            refusesOutside(0, 9, "line(9, #)", v -> x.line(9, v, 0, 1, true));
            refusesOutside(0, 4, "railway #", v -> x.line(0, 9, v, 1, false));
            refusesOutside(1, 300, "miles #", v -> x.line(0, 9, 0, v, false));
            for (int s = 0; s < 10; s++) {
                is("the same " + s, x.line(s, s, 0, 1, false), NUMBER);
            }
            for (int i = 0; i < 14 && round == 0; i++) {
                is("line " + i, x.line(0, 9, 0, 1, false), i);
            }
        }
        is("full", x.line(0, 9, 0, 1, false), FULL);
        is("lines", x.many(0), 14);
    }

    private void trainNumber() {
        says("A TRAIN (from the STATION a of its LINE if forth, else from b): its number.");
        RailPasses x = new RailPasses();
        x.line(9, 0, 0, 1, false);
        is("forth", x.train(0, true, 0, 1, false, 0), 0);
        is("refused", x.train(1, true, 0, 1, false, 0), NUMBER);
        is("back", x.train(0, false, 0, 1, false, 0), 1);
        is("forth from a", x.of(0, 1), 9);
        is("forth to b", x.of(0, 2), 0);
        is("back from b", x.of(1, 1), 0);
        is("back to a", x.of(1, 2), 9);
    }

    private void trainFare() {
        says("fare is FARE and 1000 times QUOTA.");
        int[][] told = {{0, 0, 0}, {500, 500, 0}, {1000, 0, 1}, {1500, 500, 1}, {9000, 0, 9}, {9500, 500, 9}, {3007, 7, 3}};
        RailPasses x = Lands.land();
        for (int i = 0; i < told.length; i++) {
            is("train of " + told[i][0], x.train(0, true, 0, 1, true, told[i][0]), i);
            is("FARE of " + told[i][0], x.of(i, 6), told[i][1]);
            is("QUOTA of " + told[i][0], x.of(i, 7), told[i][2]);
        }
    }

    private void trainRefused() {
        says("NUMBER: there is no such LINE, or a number isn't as told; FULL.");
        RailPasses x = Lands.land();
        for (int round = 0; round < 2; round++) {
            refusesOutside(0, 2, "train over #", v -> x.train(v, true, 0, 1, false, 0));
            refusesOutside(0, 1439, "train at #", v -> x.train(0, true, v, 1, false, 0));
            refusesOutside(1, 900, "train that takes #", v -> x.train(0, true, 0, v, false, 0));
            refusesOutside(0, 9500, "train for #", v -> x.train(0, true, 0, 1, false, v));
            is("fare 501", x.train(0, true, 0, 1, false, 501), NUMBER);
            is("fare 8999", x.train(0, true, 0, 1, false, 8999), NUMBER);
            for (int i = 0; i < 16 && round == 0; i++) {
                is("train " + i, x.train(2, true, 1439, 900, false, 9500), i);
            }
        }
        is("full", x.train(0, true, 0, 1, false, 0), FULL);
        is("trains", x.many(1), 16);
    }

    private void ofATrain() {
        says("Of a TRAIN: what = 0 LINE, 1 the STATION from which, 2 to which it goes, 3 DEPARTS, 4 TAKES, 5 1 if FAST, else 0, "
            + "6 FARE, 7 QUOTA, 8 1 if OVER MIDNIGHT, else 0.");
        RailPasses x = Lands.land();
        x.train(2, false, 1439, 900, true, 9500);
        x.train(0, true, 0, 1, false, 0);
        row("of(0, #)", what -> x.of(0, what), 2, 2, 0, 1439, 900, 1, 500, 9, 1);
        row("of(1, #)", what -> x.of(1, what), 0, 0, 1, 0, 1, 0, 0, 0, 0);
    }

    private void ofRefused() {
        says("NUMBER: there is none such, another what.");
        RailPasses x = Lands.trains();
        refusesOutside(0, 4, "of(#, 0)", v -> x.of(v, 0));
        refusesOutside(0, 8, "of(0, #)", v -> x.of(0, v));
        refusesOutside(0, 8, "of(4, #)", v -> x.of(4, v));
        is("of(4, 8)", x.of(4, 8), 0);
    }

    private void daysGoOn() {
        says("TODAY goes n (1 to 20) DAYS on: it.");
        RailPasses x = new RailPasses();
        int today = 0;
        for (int n = 1; n <= 14; n++) {
            today += n;
            is("days " + n, x.days(n), today);
            is("today", x.many(9), today);
        }
        RailPasses y = new RailPasses();
        for (int n = 1; n <= 6; n++) {
            is("days 20", y.days(20), 20 * n);
        }
    }

    private void daysRefused() {
        says("NUMBER: n isn't as told; STATE: it would be above 120.");
        RailPasses x = new RailPasses();
        refusesOutside(1, 20, "days(#)", x::days);
        is("today", x.many(9), 0);
        for (int i = 0; i < 5; i++) {
            x.days(20);
        }
        is("to 101", x.days(1), 101);
        is("to 121", x.days(20), STATE);
        is("today stays", x.many(9), 101);
        is("to 120", x.days(19), 120);
        is("to 121", x.days(1), STATE);
        is("to 140", x.days(20), STATE);
        refusesOutside(1, 20, "days(#) at the end", x::days);
        is("today stays", x.many(9), 120);
    }
}
