/** Part 4 of the document (WISHES), and promises 17 to 24. */
final class WishSentences extends SentenceTests {
    WishSentences(Sentences sentences) {
        super(sentences);
    }

    @Override
    void all() {
        section("Terms");
        wishesAtMost();
        choiceNone();
        choiceLawThere();
        choiceDays();
        choiceLetBy();
        choicePays();
        choiceCosts();
        choiceQuotas();
        choiceLeast();
        tieNone();
        tieLaw();
        tieStart();
        tieFewerDays();
        tieLesserDay();
        starts();
        rowsOf();
        rowsLeast();
        readerFirstWrong();
        readerFewer();
        readerAllRight();
        section("Promise 17");
        wishes();
        wishRefused();
        section("Promise 18");
        unwishes();
        unwishNone();
        section("Promise 19");
        ofTheChoice();
        choiceRefused();
        section("Promise 20");
        leastOf();
        leastRefused();
        section("Promise 21");
        proves();
        proveFull();
        section("Promise 22");
        ofARow();
        rowRefused();
        section("Promise 23");
        forges();
        forgeRefused();
        section("Promise 24");
        checks();
        checkFull();
    }

    /** The TRAINS, and WISHES for one of them on these DAYS. */
    private static RailPasses wished(int train, int... days) {
        RailPasses x = Lands.trains();
        for (int day : days) {
            x.wish(train, day);
        }
        return x;
    }

    /** The answers of choice from 0 on; behind those told there is NONE. */
    private void choiceIs(String when, RailPasses x, int... want) {
        for (int what = 0; what <= 14; what++) {
            is(when + ": choice(" + what + ")", x.choice(what), what < want.length ? want[what] : NONE);
        }
    }

    private void rowsAre(RailPasses x, int[]... want) {
        for (int i = 0; i < want.length; i++) {
            int at = i;
            row("row(" + i + ", #)", what -> x.row(at, what), want[i]);
        }
        is("a row more", x.row(want.length, 0), NONE);
        is("rows", x.many(6), want.length);
    }

    private void wishesAtMost() {
        says("WISHES are RIDES without a PASS (a TRAIN, a DAY), 10 at most.");
        RailPasses x = Lands.trains();
        for (int i = 1; i <= 10; i++) {
            is("wish " + i, x.wish(0, 12 * i), i);
        }
        is("wish 11", x.wish(0, 0), FULL);
        is("wishes", x.many(5), 10);
        is("all ten count", x.choice(0), 400);
        is("no PASS is needed", x.many(3), 0);
        is("the last goes", x.unwish(), 9);
        is("room for one", x.wish(0, 0), 10);
        is("and no more", x.wish(0, 0), FULL);
    }

    private void choiceNone() {
        says("A CHOICE is none (all by FARES),");
        RailPasses x = Lands.trains();
        choiceIs("no WISH, no LAW", x, 0, NONE, NONE, 0, 0);
        x.wish(0, 0);
        x.wish(3, 120);
        choiceIs("no LAW", x, 120, NONE, NONE, 0, 0);
        Due.read(x, 0, "days 60 of 60;price 999;");
        choiceIs("too dear", x, 120, NONE, NONE, 0, 0);
        x.unwish();
        x.unwish();
        Due.read(x, 0, "days 60 of 60;price 0;");
        choiceIs("no WISH", x, 0, NONE, NONE, 0, 0);
    }

    private void choiceLawThere() {
        says("or a LAW that is there,");
        RailPasses x = wished(0, 3);
        Due.read(x, 2, "days 1 of 1;price 1;x");
        choiceIs("a TEXT with a FAULT", x, 40, NONE, NONE, 0, 0);
        for (int law = 2; law >= 0; law--) {
            Due.read(x, law, "days 1 of 1;price " + (10 + law) + ";");
            choiceIs("LAW " + law, x, 10 + law, law, 3, 1, 1, 3);
        }
    }

    private void choiceDays() {
        says("a START, and up to N COUNTED DAYS that are good:");
        RailPasses x = wished(0, 10, 12, 14, 16);
        int[][] byN = {{122, 0, 8, 1, 1, 10}, {82, 0, 8, 2, 2, 10, 12}, {42, 0, 8, 3, 3, 10, 12, 14},
            {2, 0, 8, 4, 4, 10, 12, 14, 16}, {2, 0, 8, 4, 4, 10, 12, 14, 16}};
        for (int n = 1; n <= 5; n++) {
            Due.read(x, 0, "days " + n + " of 9;price 2;");
            // The lesser START is ahead of others: so with few DAYS it lies as early as may be.
            int[] want = byN[n - 1].clone();
            want[2] = new int[] {2, 4, 6, 8, 8}[n - 1];
            choiceIs("N = " + n, x, want);
            is("least from 8 on, N = " + n, x.least(0, 8), byN[n - 1][0]);
        }
        // Good are the DAYS from START to START and M less 1.
        Due.read(x, 0, "days 4 of 4;price 2;");
        row("least from 6 + #", v -> x.least(0, 6 + v), 162, 122, 122, 82, 82, 82, 82, 82, 82, 122, 122, 162);
        Due.read(x, 0, "days 1 of 1;price 2;");
        row("least from 9 + #", v -> x.least(0, 9 + v), 162, 122, 162, 122, 162, 122, 162, 122, 162);
    }

    private void choiceLetBy() {
        says("WISHES on these DAYS (COUNTED by that LAW) that its RAILWAYS and LINES let go by it,");
        RailPasses x = wished(3, 5);
        x.wish(0, 6);
        Due.read(x, 0, "days 1 of 1;price 10;night 22;");
        choiceIs("the night counts with DAY 6", x, 10, 0, 6, 1, 2, 6);
        Due.read(x, 0, "days 1 of 1;price 10;night 23;");
        choiceIs("it does not", x, 50, 0, 5, 1, 1, 5);
        Due.read(x, 0, "days 1 of 1;price 10;night 22;rail 2;");
        choiceIs("RAILWAY 2 alone", x, 50, 0, 6, 1, 1, 6);
        Due.read(x, 0, "days 1 of 1;price 10;night 22;rail 0;");
        choiceIs("RAILWAY 0 alone", x, 90, 0, 6, 1, 1, 6);
        Due.read(x, 0, "days 1 of 1;price 10;night 22;line 2 out;");
        choiceIs("LINE 2 out", x, 90, 0, 6, 1, 1, 6);
        Due.read(x, 0, "days 1 of 1;price 10;night 22;line 0 out;line 2 out;");
        choiceIs("both out", x, 120, NONE, NONE, 0, 0);
        Due.read(x, 0, "days 1 of 1;price 10;night 22;line 1 out;line 13 out;");
        choiceIs("others out", x, 10, 0, 6, 1, 2, 6);
    }

    private void choicePays() {
        says("and for which what they PAY is less than FARE, go by it and PAY; all others cost FARE.");
        RailPasses x = wished(1, 5);
        x.wish(0, 5);
        Due.read(x, 0, "days 1 of 1;price 1;fast 59;");
        choiceIs("one less than FARE", x, 60, 0, 5, 1, 2, 5);
        Due.read(x, 0, "days 1 of 1;price 1;fast 60;");
        choiceIs("as much as FARE", x, 61, 0, 5, 1, 1, 5);
        Due.read(x, 0, "days 1 of 1;price 1;fast 61;");
        choiceIs("more than FARE", x, 61, 0, 5, 1, 1, 5);
        Due.read(x, 0, "days 1 of 1;price 1;fast 999;");
        choiceIs("far more than FARE", x, 61, 0, 5, 1, 1, 5);
        RailPasses y = wished(2, 5);
        Due.read(y, 0, "days 1 of 1;price 0;boat 99;");
        choiceIs("99 percents of a BOAT", y, 54, 0, 5, 1, 1, 5);
        Due.read(y, 0, "days 1 of 1;price 0;boat 100;");
        choiceIs("all of a BOAT", y, 55, NONE, NONE, 0, 0);
        RailPasses z = wished(4, 5);
        Due.read(z, 0, "days 1 of 1;price 0;boat 50;fast 50;");
        choiceIs("50 and 50 of 101", z, 100, 0, 5, 1, 1, 5);
        Due.read(z, 0, "days 1 of 1;price 0;boat 50;fast 51;");
        choiceIs("50 and 51 of 101", z, 101, NONE, NONE, 0, 0);
        // For a FARE of 0 nothing is less.
        RailPasses v = Lands.land();
        v.train(0, true, 0, 1, false, 0);
        v.wish(0, 5);
        Due.read(v, 0, "days 1 of 1;price 0;");
        choiceIs("FARE 0", v, 0, NONE, NONE, 0, 0);
    }

    private void choiceCosts() {
        says("It COSTS what the PASS does (no CHILD), and all these.");
        RailPasses x = wished(0, 5, 6);
        Due.read(x, 0, "days 1 of 1;price 30;child 0;");
        choiceIs("as for no CHILD", x, 70, 0, 5, 1, 1, 5);
        is("least", x.least(0, 5), 70);
        // The greatest cost there is: ten FARES of 500 and a PRICE of 999.
        RailPasses y = Lands.land();
        y.train(0, true, 0, 1, false, 500);
        for (int i = 0; i < 10; i++) {
            y.wish(0, 5);
        }
        Due.read(y, 0, "days 1 of 1;price 999;");
        is("all by FARES, and the PRICE", y.least(0, 4), 5999);
        is("the PRICE alone", y.least(0, 5), 999);
    }

    private void choiceQuotas() {
        says("(QUOTAS do not matter.)");
        RailPasses x = Lands.land();
        x.train(0, true, 0, 1, true, 50);
        x.train(0, true, 0, 1, true, 1050);
        for (int i = 0; i < 3; i++) {
            x.wish(0, 5);
            x.wish(1, 5);
        }
        Due.read(x, 0, "days 1 of 1;price 1;");
        choiceIs("six on TRAINS that bear none and one", x, 1, 0, 5, 1, 6, 5);
        x.sell(0, 5, false);
        x.ride(0, 1, 5);
        choiceIs("though one is taken", x, 1, 0, 5, 1, 6, 5);
    }

    private void choiceLeast() {
        says("THE CHOICE COSTS least;");
        RailPasses x = wished(0, 10, 11, 40);
        x.wish(3, 40);
        Due.read(x, 0, "days 2 of 2;price 40;");
        Due.read(x, 1, "days 1 of 1;price 39;");
        Due.read(x, 2, "days 3 of 60;price 81;");
        choiceIs("LAW 2", x, 81, 2, 0, 3, 4, 10, 11, 40);
        Due.read(x, 2, "days 3 of 60;price 118;");
        choiceIs("LAW 2 by one", x, 118, 2, 0, 3, 4, 10, 11, 40);
        Due.read(x, 2, "days 3 of 60;price 120;");
        choiceIs("LAW 1 by one", x, 119, 1, 40, 1, 2, 40);
        Due.read(x, 0, "days 2 of 2;price 0;");
        choiceIs("LAW 0", x, 80, 0, 39, 1, 2, 40);
        // The DAY that spares most, not the first; the START that spares most, not the first.
        Due.read(x, 0, "days 1 of 60;price 0;");
        choiceIs("one DAY", x, 80, 0, 0, 1, 2, 40);
    }

    private void tieNone() {
        says("of several it is none ahead of others,");
        RailPasses x = wished(0, 10);
        Due.read(x, 0, "days 1 of 1;price 40;");
        choiceIs("as much", x, 40, NONE, NONE, 0, 0);
        Due.read(x, 0, "days 1 of 1;price 39;");
        choiceIs("one less", x, 39, 0, 10, 1, 1, 10);
        Due.read(x, 0, "days 1 of 1;price 41;");
        choiceIs("one more", x, 40, NONE, NONE, 0, 0);
    }

    private void tieLaw() {
        says("then the lesser LAW,");
        RailPasses x = wished(0, 10);
        Due.read(x, 2, "days 1 of 60;price 20;");
        choiceIs("2 alone", x, 20, 2, 0, 1, 1, 10);
        // The lesser LAW is ahead though its START is greater.
        Due.read(x, 1, "days 1 of 2;price 20;");
        choiceIs("1 ahead of 2", x, 20, 1, 9, 1, 1, 10);
        Due.read(x, 0, "days 1 of 1;price 20;");
        choiceIs("0 ahead of both", x, 20, 0, 10, 1, 1, 10);
        Due.read(x, 2, "days 1 of 60;price 19;");
        choiceIs("2 if it costs less", x, 19, 2, 0, 1, 1, 10);
    }

    private void tieStart() {
        says("then the lesser START,");
        RailPasses x = wished(0, 10, 20);
        Due.read(x, 0, "days 1 of 5;price 20;");
        choiceIs("of five", x, 60, 0, 6, 1, 1, 10);
        Due.read(x, 0, "days 1 of 11;price 20;");
        choiceIs("of eleven", x, 60, 0, 0, 1, 1, 10);
        Due.read(x, 0, "days 2 of 11;price 20;");
        choiceIs("just one START spares both", x, 20, 0, 10, 2, 2, 10, 20);
        // The lesser START is ahead though it has more DAYS: 40 and 40 on 10 and 11, 80 on 30.
        RailPasses y = wished(0, 10, 11);
        y.wish(3, 30);
        Due.read(y, 0, "days 2 of 5;price 20;");
        choiceIs("two DAYS from 7", y, 100, 0, 7, 2, 2, 10, 11);
    }

    private void tieFewerDays() {
        says("then that with fewer DAYS,");
        RailPasses x = Lands.trains();
        x.train(0, true, 0, 1, false, 0);
        x.wish(5, 1);
        x.wish(0, 2);
        x.wish(5, 3);
        Due.read(x, 0, "days 3 of 3;price 1;");
        choiceIs("a DAY that spares nothing", x, 1, 0, 0, 1, 1, 2);
        // Nor a DAY of which the only WISH is not let, or PAYS as much as its FARE.
        RailPasses y = wished(0, 2);
        y.wish(3, 1);
        y.wish(1, 3);
        Due.read(y, 0, "days 3 of 3;price 1;line 2 out;fast 60;");
        choiceIs("DAYS by which none goes", y, 141, 0, 0, 1, 1, 2);
    }

    private void tieLesserDay() {
        says("then that which has the lesser DAY at the first (rising) at which two are unlike.");
        RailPasses x = wished(0, 30, 20, 10);
        Due.read(x, 0, "days 1 of 31;price 1;");
        choiceIs("one of three", x, 81, 0, 0, 1, 1, 10);
        Due.read(x, 0, "days 2 of 31;price 1;");
        choiceIs("two of three", x, 41, 0, 0, 2, 2, 10, 20);
        // The dearer DAY 20 is spent at all events; of 10 and 30 the lesser.
        x.wish(0, 20);
        choiceIs("two of three, one dearer", x, 41, 0, 0, 2, 3, 10, 20);
        Due.read(x, 0, "days 1 of 31;price 1;");
        choiceIs("the dearer one", x, 81, 0, 0, 1, 2, 20);
        x.wish(0, 30);
        choiceIs("of two dearer ones", x, 121, 0, 0, 1, 2, 20);
        Due.read(x, 0, "days 2 of 31;price 1;");
        choiceIs("both dearer ones", x, 41, 0, 0, 2, 4, 20, 30);
    }

    private void starts() {
        says("STARTS are 0 to 120.");
        RailPasses x = wished(0, 0);
        Due.read(x, 0, "days 1 of 60;price 1;");
        choiceIs("no START ahead of 0", x, 1, 0, 0, 1, 1, 0);
        is("a row for 0 alone", x.prove(), 1);
        is("its START", x.row(0, 1), 0);
        is("which is right", x.check(), -1);
        x.forge(0, 2, 0);
        is("and then not", x.check(), 0);
        RailPasses y = wished(0, 120);
        Due.read(y, 0, "days 1 of 1;price 1;");
        choiceIs("START 120", y, 1, 0, 120, 1, 1, 120);
        is("a row for 120", y.prove(), 1);
        is("its START", y.row(0, 1), 120);
        is("which is right", y.check(), -1);
        y.forge(0, 2, 0);
        is("and then not", y.check(), 0);
        // The night of 120 is counted on 121, and no START is.
        RailPasses z = wished(3, 120);
        Due.read(z, 0, "days 1 of 1;price 1;night 22;");
        choiceIs("no START 121", z, 80, NONE, NONE, 0, 0);
        is("no row", z.prove(), 0);
        is("and none is due", z.check(), -1);
        Due.read(z, 0, "days 1 of 3;price 1;night 22;");
        choiceIs("START 119", z, 1, 0, 119, 1, 1, 121);
        is("rows for 119 and 120", z.prove(), 2);
        refusesOutside(0, 120, "least from #", v -> z.least(0, v));
    }

    private void rowsOf() {
        says("ROWS prove THE CHOICE: for each LAW that is there, by numbers, and each START at which some WISH's COUNTED DAY is good "
            + "by it (rising):");
        RailPasses x = wished(0, 1, 4);
        is("no LAW", x.prove(), 0);
        Due.read(x, 2, "days 1 of 2;price 1;rail 4;");
        Due.read(x, 0, "days 1 of 1;price 2;");
        // The WISHES can't go by LAW 2; their DAYS are good by it all the same. LAW 1 is not there.
        is("prove", x.prove(), 6);
        rowsAre(x, new int[] {0, 1, 42}, new int[] {0, 4, 42}, new int[] {2, 0, 81}, new int[] {2, 1, 81}, new int[] {2, 3, 81},
            new int[] {2, 4, 81});
        // Two WISHES of one DAY give no more ROWS than one.
        x.wish(2, 4);
        is("prove again", x.prove(), 6);
        // A DAY is COUNTED by the LAW.
        RailPasses y = wished(3, 7);
        Due.read(y, 0, "days 1 of 1;price 1;night 22;");
        Due.read(y, 1, "days 1 of 1;price 1;night 23;");
        is("prove the night", y.prove(), 2);
        rowsAre(y, new int[] {0, 8, 1}, new int[] {1, 7, 1});
        y.unwish();
        is("no WISH", y.prove(), 0);
        rowsAre(y);
    }

    private void rowsLeast() {
        says("a row (LAW, START, the least that a CHOICE with them COSTS).");
        RailPasses x = wished(0, 3, 4);
        Due.read(x, 1, "days 1 of 2;price 100;");
        is("prove", x.prove(), 3);
        // None would cost less, but it is no CHOICE with this LAW.
        rowsAre(x, new int[] {1, 2, 140}, new int[] {1, 3, 140}, new int[] {1, 4, 140});
        for (int start = 2; start <= 4; start++) {
            is("least from " + start, x.least(1, start), 140);
        }
    }

    private void readerFirstWrong() {
        says("THE READER tells the first of ROWS that is not so (as things are now),");
        RailPasses x = wished(0, 1, 4);
        Due.read(x, 0, "days 1 of 1;price 2;");
        Due.read(x, 1, "days 1 of 2;price 1;");
        is("prove", x.prove(), 6);
        for (int i = 5; i >= 0; i--) {
            for (int what = 0; what <= 2; what++) {
                int was = x.forge(i, what, x.row(i, what) + 1);
                is("row " + i + ", " + what + " one more", x.check(), i);
                x.forge(i, what, was - 1);
                is("row " + i + ", " + what + " one less", x.check(), i);
                x.forge(i, what, MIN);
                is("row " + i + ", " + what + " the least int", x.check(), i);
                x.forge(i, what, was);
                is("as it was", x.check(), -1);
            }
        }
        x.forge(4, 2, 0);
        x.forge(2, 1, 9);
        is("of two the first", x.check(), 2);
        // Two that change places are not so, where they stand.
        x.prove();
        x.forge(0, 1, 4);
        x.forge(1, 1, 1);
        is("two change places", x.check(), 0);
        // Things change, and ROWS do not.
        x.prove();
        Due.read(x, 1, "days 1 of 2;price 3;");
        is("another LAW 1", x.check(), 2);
        x.unwish();
        is("a WISH less", x.check(), 0);
        // The ROWS that stay right are so; one that is too many is not.
        RailPasses y = Lands.land();
        y.train(0, true, 0, 1, false, 0);
        y.wish(0, 3);
        y.wish(0, 7);
        Due.read(y, 0, "days 1 of 1;price 5;");
        y.prove();
        y.unwish();
        is("one too many", y.check(), 1);
        y.unwish();
        is("both too many", y.check(), 0);
    }

    private void readerFewer() {
        says("or, if all are so, but fewer than they should be, how many there are;");
        RailPasses x = wished(0, 3);
        Due.read(x, 0, "days 1 of 2;price 5;");
        is("none of two", x.check(), 0);
        x.prove();
        Due.read(x, 1, "days 1 of 1;price 5;");
        is("two of three", x.check(), 2);
        x.forge(1, 2, 0);
        is("not so ahead of fewer", x.check(), 1);
        x.prove();
        Due.read(x, 2, "days 1 of 60;price 5;");
        is("three of seven", x.check(), 3);
    }

    private void readerAllRight() {
        says("-1: all are right.");
        RailPasses x = Lands.trains();
        is("no rows, and none due", x.check(), -1);
        x.wish(0, 3);
        is("no LAW", x.check(), -1);
        Due.read(x, 0, "days 1 of 2;price 5;");
        x.prove();
        is("two of two", x.check(), -1);
        x.unwish();
        is("none due, two there", x.check(), 0);
        x.prove();
        is("none of none", x.check(), -1);
        // What has nothing to do with ROWS changes nothing of it.
        x.wish(0, 3);
        x.prove();
        x.sell(0, 3, false);
        x.ride(0, 0, 3);
        x.days(1);
        x.scan(0, 0, 0, 0);
        is("two of two still", x.check(), -1);
    }

    private void wishes() {
        says("A WISH: how many there are.");
        RailPasses x = Lands.trains();
        is("first", x.wish(4, 0), 1);
        is("the same again", x.wish(4, 0), 2);
        is("refused", x.wish(5, 0), NUMBER);
        is("third", x.wish(0, 120), 3);
        is("wishes", x.many(5), 3);
        is("by FARES", x.choice(0), 101 + 101 + 40);
    }

    private void wishRefused() {
        says("NUMBER: there is no such TRAIN, DAY; FULL.");
        RailPasses x = Lands.trains();
        for (int round = 0; round < 2; round++) {
            refusesOutside(0, 4, "wish(#, 0)", v -> x.wish(v, 0));
            refusesOutside(0, 120, "wish(0, #)", v -> x.wish(0, v));
            for (int i = 1; i <= 10 && round == 0; i++) {
                is("wish " + i, x.wish(4, 120 * (i % 2)), i);
            }
        }
        is("full", x.wish(0, 0), FULL);
        is("wishes", x.many(5), 10);
    }

    private void unwishes() {
        says("The latest WISH goes: how many there are.");
        RailPasses x = Lands.trains();
        int[] fares = {40, 60, 55, 80, 101};
        int sum = 0;
        for (int i = 0; i < 10; i++) {
            x.wish(i % 5, i);
            sum += fares[i % 5];
        }
        for (int i = 9; i >= 0; i--) {
            sum -= fares[i % 5];
            is("unwish of " + (i + 1), x.unwish(), i);
            is("FARES of the others", x.choice(0), sum);
        }
        // Nor is a WISH that went in THE CHOICE: the latest ones are of the latest DAYS.
        RailPasses y = wished(0, 10, 11, 12, 13, 14, 15, 16, 17, 18, 19);
        Due.read(y, 0, "days 9 of 10;price 1;");
        choiceIs("ten", y, 41, 0, 9, 9, 9, 10, 11, 12, 13, 14, 15, 16, 17, 18);
        y.unwish();
        choiceIs("nine", y, 1, 0, 9, 9, 9, 10, 11, 12, 13, 14, 15, 16, 17, 18);
        y.unwish();
        choiceIs("eight", y, 1, 0, 8, 8, 8, 10, 11, 12, 13, 14, 15, 16, 17);
        Due.read(y, 0, "days 8 of 20;price 1;");
        choiceIs("eight of 20", y, 1, 0, 0, 8, 8, 10, 11, 12, 13, 14, 15, 16, 17);
        y.unwish();
        choiceIs("seven of 20", y, 1, 0, 0, 7, 7, 10, 11, 12, 13, 14, 15, 16);
        // Nor does a dearer one that went take a DAY from others.
        RailPasses z = wished(0, 10, 11);
        z.wish(3, 12);
        Due.read(z, 0, "days 2 of 20;price 1;");
        choiceIs("a dearer one", z, 41, 0, 0, 2, 2, 10, 12);
        z.unwish();
        choiceIs("it went", z, 1, 0, 0, 2, 2, 10, 11);
    }

    private void unwishNone() {
        says("NONE: there are none.");
        RailPasses x = Lands.trains();
        is("none yet", x.unwish(), NONE);
        x.wish(0, 0);
        is("one", x.unwish(), 0);
        is("none any more", x.unwish(), NONE);
        is("wishes", x.many(5), 0);
        is("one again", x.wish(0, 0), 1);
    }

    private void ofTheChoice() {
        says("Of THE CHOICE: what = 0 what it COSTS, 1 its LAW (NONE: none), 2 its START (NONE), 3 how many DAYS, "
            + "4 how many WISHES go by it, 5 + i its DAY i (rising; NONE: there is none such).");
        RailPasses x = wished(0, 119, 2, 2);
        choiceIs("none", x, 120, NONE, NONE, 0, 0);
        Due.read(x, 1, "days 2 of 60;price 9;");
        choiceIs("one DAY, two WISHES", x, 49, 1, 0, 1, 2, 2);
        // As many DAYS as there may be WISHES, told from the last to the first.
        RailPasses y = wished(0, 118, 116, 114, 112, 110, 108, 106, 104, 102, 100);
        Due.read(y, 2, "days 60 of 60;price 0;");
        choiceIs("ten DAYS", y, 0, 2, 59, 10, 10, 100, 102, 104, 106, 108, 110, 112, 114, 116, 118);
        Due.read(y, 2, "days 9 of 60;price 0;");
        choiceIs("nine DAYS", y, 40, 2, 57, 9, 9, 100, 102, 104, 106, 108, 110, 112, 114, 116);
    }

    private void choiceRefused() {
        says("NUMBER: another what (14 at most).");
        RailPasses x = Lands.trains();
        refusesOutside(0, 14, "choice(#)", x::choice);
        is("choice(14)", x.choice(14), NONE);
        x.wish(0, 0);
        Due.read(x, 0, "days 1 of 1;price 0;");
        refusesOutside(0, 14, "choice(#) of a LAW", x::choice);
        is("choice(14)", x.choice(14), NONE);
    }

    private void leastOf() {
        says("The least that a CHOICE with a LAW and a START COSTS.");
        RailPasses x = Lands.trains();
        Due.read(x, 0, "days 1 of 2;price 100;child 0;");
        is("no WISH, from 0", x.least(0, 0), 100);
        is("no WISH, from 120", x.least(0, 120), 100);
        x.wish(0, 5);
        x.wish(3, 6);
        row("least from 3 + #", v -> x.least(0, 3 + v), 220, 180, 140, 140, 220);
        is("least from 120", x.least(0, 120), 220);
        is("least from 0", x.least(0, 0), 220);
        Due.read(x, 2, "days 2 of 2;price 0;fast 1;");
        is("of another LAW", x.least(2, 5), 0);
        is("which changes nothing of the first", x.least(0, 5), 140);
    }

    private void leastRefused() {
        says("NUMBER: there is no such LAW, or start isn't 0 to 120; NONE: the LAW was never read.");
        RailPasses x = wished(0, 0);
        for (int round = 0; round < 2; round++) {
            refusesOutside(0, 2, "least(#, 0)", v -> x.least(v, 0));
            refusesOutside(0, 120, "least(1, #)", v -> x.least(1, v));
            is("least(1, 0)", x.least(1, 0), round == 0 ? NONE : 7);
            is("least(1, 120)", x.least(1, 120), round == 0 ? NONE : 47);
            is("least(0, 0)", x.least(0, 0), NONE);
            is("least(2, 120)", x.least(2, 120), NONE);
            Due.read(x, 1, "days 1 of 1;price 7;");
        }
    }

    private void proves() {
        says("ROWS become those that prove THE CHOICE: how many.");
        RailPasses x = wished(0, 3);
        is("no LAW", x.prove(), 0);
        Due.read(x, 0, "days 1 of 3;price 1;");
        is("rows are not there by themselves", x.many(6), 0);
        is("three", x.prove(), 3);
        rowsAre(x, new int[] {0, 1, 1}, new int[] {0, 2, 1}, new int[] {0, 3, 1});
        Due.read(x, 0, "days 1 of 2;price 1;");
        is("they stay", x.many(6), 3);
        is("fewer", x.prove(), 2);
        rowsAre(x, new int[] {0, 2, 1}, new int[] {0, 3, 1});
        x.forge(1, 2, 9);
        is("anew", x.prove(), 2);
        is("what was forged is gone", x.row(1, 2), 1);
        x.unwish();
        is("none", x.prove(), 0);
        rowsAre(x);
    }

    /** Three LAWS of 60, 60 and so many DAYS, ROWS for a WISH on DAY 60, and one more WISH on DAY 67. */
    private RailPasses manyRows(int within) {
        RailPasses x = wished(0, 60);
        Due.read(x, 0, "days 1 of 60;price 5;");
        Due.read(x, 1, "days 1 of 60;price 5;");
        Due.read(x, 2, "days 1 of " + within + ";price 5;");
        is("prove with one WISH", x.prove(), 120 + within);
        x.wish(0, 67);
        return x;
    }

    private void proveFull() {
        says("FULL: there would be more than 200 (then ROWS stay).");
        // A row for each START from 1 to 67 by the first two LAWS; by the third 7 more than it has DAYS.
        RailPasses x = manyRows(59);
        is("200", x.prove(), 200);
        is("rows", x.many(6), 200);
        is("the last one", x.row(199, 1), 67);
        is("one more", x.row(200, 0), NONE);
        RailPasses y = manyRows(60);
        is("201", y.prove(), FULL);
        is("rows stay", y.many(6), 180);
        is("the last one stays", y.row(179, 1), 60);
        is("its least", y.row(179, 2), 5);
        // The most there may be: 121 for each of three LAWS.
        RailPasses z = wished(0, 0, 59, 118, 120);
        for (int law = 0; law < 3; law++) {
            Due.read(z, law, "days 1 of 60;price 5;");
        }
        is("far more", z.prove(), FULL);
        is("none stay none", z.many(6), 0);
        // STARTS 0 and 120 count, -1 and 121 don't: 66 for each LAW are 198, 67 are 201.
        is("STARTS 0 to 65", rowsOfSixties(58, 65), 198);
        is("STARTS 0 to 66", rowsOfSixties(58, 66), FULL);
        is("STARTS 55 to 120", rowsOfSixties(114, 120), 198);
        is("STARTS 54 to 120", rowsOfSixties(113, 120), FULL);
    }

    /** What prove answers for WISHES on two DAYS and three LAWS of 60 DAYS. */
    private static int rowsOfSixties(int day, int other) {
        RailPasses x = wished(0, day, other);
        for (int law = 0; law < 3; law++) {
            Due.read(x, law, "days 1 of 60;price 5;");
        }
        return x.prove();
    }

    private void ofARow() {
        says("Of ROW i: what = 0 LAW, 1 START, 2 the least.");
        RailPasses x = wished(0, 120);
        Due.read(x, 2, "days 1 of 1;price 7;");
        Due.read(x, 0, "days 1 of 1;price 999;");
        x.prove();
        row("row(0, #)", what -> x.row(0, what), 0, 120, 999);
        row("row(1, #)", what -> x.row(1, what), 2, 120, 7);
        x.unwish();
        row("row(1, #) stays", what -> x.row(1, what), 2, 120, 7);
    }

    private void rowRefused() {
        says("NUMBER: another what; NONE: there is none such.");
        RailPasses x = wished(0, 3);
        for (int round = 0; round < 2; round++) {
            refusesOutside(0, 2, "row(0, #)", v -> x.row(0, v));
            refusesOutside(0, 2, "row(1, #)", v -> x.row(1, v));
            refusesOutside(0, 2, "row(-1, #)", v -> x.row(-1, v));
            is("row(0, 2)", x.row(0, 2), round == 0 ? NONE : 5);
            answersOutside(0, 0, NONE, "row(#, 0)", v -> x.row(v, 0));
            answersOutside(0, 0, NONE, "row(#, 2)", v -> x.row(v, 2));
            Due.read(x, 0, "days 1 of 1;price 5;");
            x.prove();
        }
    }

    private void forges() {
        says("It becomes v: what it was.");
        RailPasses x = wished(0, 3);
        Due.read(x, 1, "days 1 of 2;price 5;");
        x.prove();
        for (int what = 0; what <= 2; what++) {
            int was = x.row(1, what);
            is("forge to the greatest", x.forge(1, what, MAX), was);
            is("forge to the least", x.forge(1, what, MIN), MAX);
            is("forge to -1", x.forge(1, what, -1), MIN);
            is("row", x.row(1, what), -1);
            is("the other row stays", x.row(0, what), new int[] {1, 2, 5}[what]);
            is("forge to what it was", x.forge(1, what, was), -1);
            is("and the same again", x.forge(1, what, was), was);
        }
        is("rows", x.many(6), 2);
        is("all as it was", x.check(), -1);
    }

    private void forgeRefused() {
        says("NUMBER: another what; NONE likewise.");
        RailPasses x = wished(0, 3);
        for (int round = 0; round < 2; round++) {
            refusesOutside(0, 2, "forge(0, #)", v -> x.forge(0, v, 77));
            refusesOutside(0, 2, "forge(1, #)", v -> x.forge(1, v, 77));
            answersOutside(0, 0, NONE, "forge(#, 0)", v -> x.forge(v, 0, 77));
            answersOutside(0, 0, NONE, "forge(#, 2)", v -> x.forge(v, 2, 77));
            if (round == 0) {
                is("none yet", x.forge(0, 0, 77), NONE);
            }
            is("rows", x.many(6), round);
            is("all right", x.check(), -1);
            Due.read(x, 0, "days 1 of 1;price 5;");
            x.prove();
        }
    }

    private void checks() {
        says("THE READER.");
        RailPasses x = wished(0, 3);
        Due.read(x, 0, "days 1 of 2;price 5;");
        is("fewer", x.check(), 0);
        x.prove();
        is("right", x.check(), -1);
        x.forge(1, 2, 4);
        is("wrong", x.check(), 1);
        is("reading mends nothing", x.row(1, 2), 4);
        is("wrong still", x.check(), 1);
    }

    private void checkFull() {
        says("FULL: there should be more than 200.");
        RailPasses x = manyRows(59);
        is("200 should be, those of one WISH are", x.check(), 0);
        x.prove();
        is("200 are right", x.check(), -1);
        x.forge(199, 2, 0);
        is("the last of 200 is wrong", x.check(), 199);
        Due.read(x, 2, "days 1 of 60;price 5;");
        is("201 should be", x.check(), FULL);
        x.unwish();
        is("180 should be", x.check(), 0);
        // FULL even if the first row is wrong, or none is there.
        RailPasses y = manyRows(60);
        y.forge(0, 0, 9);
        is("201 should be, the first is wrong", y.check(), FULL);
        RailPasses z = wished(0, 60, 67);
        for (int law = 0; law < 3; law++) {
            Due.read(z, law, "days 1 of 60;price 5;");
        }
        is("201 should be, none is", z.check(), FULL);
    }
}
