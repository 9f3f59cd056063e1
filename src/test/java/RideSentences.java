/** Part 3 of the document (PASSES and RIDES), and promises 9 to 16. */
final class RideSentences extends SentenceTests {
    RideSentences(Sentences sentences) {
        super(sentences);
    }

    @Override
    void all() {
        section("Terms");
        passesAtMost();
        lawAsItWas();
        startsAndChildren();
        costs();
        goodDays();
        ridesOfADay();
        countedDays();
        barredByLine();
        barredByDay();
        barredByLoss();
        barredByDaysSpent();
        barredByQuota();
        firstBar();
        pays();
        ridesAtMost();
        givenBack();
        lostStaysSo();
        refunds();
        section("Promise 9");
        sells();
        sellRefused();
        section("Promise 10");
        ofAPass();
        passRefused();
        section("Promise 11");
        mayAnswers();
        mayRefused();
        section("Promise 12");
        rides();
        rideRefused();
        section("Promise 13");
        ofARide();
        rideOfRefused();
        section("Promise 14");
        givesBack();
        giveBackRefused();
        section("Promise 15");
        takenAnswers();
        takenRefused();
        section("Promise 16");
        loses();
        loseRefused();
    }

    private void passesAtMost() {
        says("PASSES are numbered from 0 as they are sold, 8 at most:");
        RailPasses x = Lands.trainsBy("days 1 of 1;price 1;");
        for (int i = 0; i < 8; i++) {
            is("pass not yet sold", x.pass(i, 0), NUMBER);
            is("sell " + i, x.sell(0, 10 + i, false), i);
        }
        is("sell 8", x.sell(0, 0, false), FULL);
        is("passes", x.many(3), 8);
        is("start of the last", x.pass(7, 2), 17);
        is("ride by the last", x.ride(7, 0, 17), 0);
        is("one more", x.pass(8, 0), NUMBER);
        is("ride by one more", x.ride(8, 0, 17), NUMBER);
    }

    private void lawAsItWas() {
        says("of a LAW (as it was then; LAWS read anew change nothing of it),");
        RailPasses x = Lands.trains();
        x.line(5, 6, 0, 1, false);
        x.train(3, true, 0, 1, false, 0);
        Due.read(x, 0, "days 2 of 3;price 101;rail 0;rail 1;line 3 out;night 22;fast 7;boat 50;child 50;refund 80;lost 40;");
        x.sell(0, 10, true);
        Due.read(x, 0, "days 1 of 1;price 7;rail 2;line 0 out;night 0;fast 9;boat 9;child 9;refund 9;lost 9;");
        is("COSTS", x.pass(0, 0), 50);
        is("REFUND", x.pass(0, 7), 40);
        is("last good DAY", x.pass(0, 8), 12);
        is("RAILWAY 0 goes", x.may(0, 0, 12), 0);
        is("RAILWAY 2 does not", x.may(0, 3, 11), 1);
        is("LINE 3 is OUT", x.may(0, 5, 10), 1);
        x.train(0, true, 1319, 121, false, 0);
        x.train(0, true, 1320, 120, false, 0);
        is("before its NIGHT", x.may(0, 6, 12), 0);
        is("at its NIGHT", x.may(0, 7, 12), 2);
        is("FAST", x.ride(0, 1, 10), 7);
        is("BOAT", x.ride(0, 2, 11), 27);
        is("two DAYS are all", x.may(0, 0, 12), 4);
        x.giveBack(0);
        is("REFUND if LOST", x.lose(0), 10);
        // What is sold from now on is by the new one.
        is("another", x.sell(0, 10, true), 1);
        is("its COSTS", x.pass(1, 0), 0);
        is("its last good DAY", x.pass(1, 8), 10);
        is("its RAILWAYS", x.may(1, 0, 10), 1);
    }

    private void startsAndChildren() {
        says("from a START (a DAY), for a CHILD or not.");
        RailPasses x = Lands.trainsBy("days 1 of 1;price 10;child 30;");
        refusesOutside(0, 120, "sell from #", v -> x.sell(0, v, true));
        is("sell from 0", x.sell(0, 0, true), 0);
        is("sell from 120", x.sell(0, 120, false), 1);
        is("of a CHILD", x.pass(0, 0), 3);
        is("of none", x.pass(1, 0), 10);
        is("START", x.pass(0, 2), 0);
        is("START", x.pass(1, 2), 120);
    }

    private void costs() {
        says("It COSTS PRICE, for a CHILD times CHILD percents (the rest away).");
        int[][] told = {{0, 100, 0}, {999, 100, 999}, {999, 0, 0}, {999, 99, 989}, {999, 1, 9}, {1, 99, 0}, {1, 100, 1}, {101, 50, 50},
            {99, 1, 0}, {100, 1, 1}};
        for (int[] t : told) {
            RailPasses x = Lands.trainsBy("days 1 of 1;price " + t[0] + ";child " + t[1] + ";");
            x.sell(0, 0, false);
            x.sell(0, 0, true);
            is("price " + t[0], x.pass(0, 0), t[0]);
            is("price " + t[0] + ", child " + t[1], x.pass(1, 0), t[2]);
        }
        RailPasses y = Lands.trainsBy("days 1 of 1;price 77;");
        y.sell(0, 0, true);
        is("without child all of it", y.pass(0, 0), 77);
    }

    private void goodDays() {
        says("It is good on COUNTED DAYS from START to START and M less 1.");
        int[][] spans = {{5, 1}, {5, 3}, {0, 1}, {0, 60}, {60, 60}, {61, 60}, {120, 1}};
        for (int[] span : spans) {
            RailPasses x = Lands.sold("days 1 of " + span[1] + ";price 1;", span[0]);
            int last = span[0] + span[1] - 1;
            is("last", x.pass(0, 8), last);
            is("START", x.may(0, 0, span[0]), 0);
            is("last", x.may(0, 0, last), 0);
            is("ahead of START", x.may(0, 0, span[0] - 1), span[0] == 0 ? NUMBER : 2);
            is("behind the last", x.may(0, 0, last + 1), last >= 120 ? NUMBER : 2);
        }
        // A PASS whose days go beyond 120 is good on the COUNTED DAY behind it.
        RailPasses y = Lands.sold("days 1 of 2;price 1;night 22;", 120);
        is("last beyond 120", y.pass(0, 8), 121);
        is("night of 120", y.may(0, 3, 120), 0);
        is("night of 119", y.may(0, 3, 119), 0);
        is("night of 118", y.may(0, 3, 118), 2);
        RailPasses z = Lands.sold("days 1 of 1;price 1;night 22;", 120);
        is("night of 120, too late", z.may(0, 3, 120), 2);
        is("night of 119, just right", z.may(0, 3, 119), 0);
    }

    private void ridesOfADay() {
        says("A RIDE: a PASS, a TRAIN, the DAY it departs.");
        RailPasses x = Lands.sold("days 2 of 2;price 1;night 22;", 0);
        x.sell(0, 120, false);
        is("ride on 0", x.ride(0, 3, 0), 0);
        is("ride on 120", x.ride(1, 3, 120), 0);
        row("rideOf(0, #)", what -> x.rideOf(0, what), 0, 3, 0, 1, 0);
        row("rideOf(1, #)", what -> x.rideOf(1, what), 1, 3, 120, 121, 0);
        is("taken on the DAY it departs", x.taken(3, 0), 1);
        is("not on the COUNTED one", x.taken(3, 1), 0);
    }

    /** The COUNTED DAY of a RIDE on DAY 7 by a TRAIN that departs and takes so. */
    private int countedOf(String night, int departs, int takes) {
        RailPasses x = Lands.sold("days 9 of 9;price 1;" + night, 5);
        x.train(0, true, departs, takes, false, 0);
        x.ride(0, 5, 7);
        return x.rideOf(0, 3);
    }

    private void countedDays() {
        says("Its COUNTED DAY is that DAY, or the next one if the TRAIN goes OVER MIDNIGHT and DEPARTS at NIGHT o'clock or later.");
        is("at 22:00, not over midnight", countedOf("night 22;", 1320, 119), 7);
        is("at 22:00, over midnight", countedOf("night 22;", 1320, 120), 8);
        is("at 21:59, over midnight", countedOf("night 22;", 1319, 900), 7);
        is("at 22:59", countedOf("night 23;", 1379, 900), 7);
        is("at 23:00", countedOf("night 23;", 1380, 60), 8);
        is("at 23:59", countedOf("night 23;", 1439, 1), 8);
        is("at 23:59 without night", countedOf("", 1439, 900), 7);
        is("night 0 at 0:00, not over midnight", countedOf("night 0;", 0, 900), 7);
        is("night 0 at 9:00", countedOf("night 0;", 540, 900), 8);
        is("night 0 at 9:00, a minute less", countedOf("night 0;", 540, 899), 7);
        is("night 9 at 9:00", countedOf("night 9;", 540, 900), 8);
        is("night 10 at 9:00", countedOf("night 10;", 540, 900), 7);
        // Of DAY 120 it is the one behind it.
        RailPasses x = Lands.sold("days 1 of 9;price 1;night 22;", 120);
        x.ride(0, 3, 120);
        is("of DAY 120", x.rideOf(0, 3), 121);
    }

    private void barredByLine() {
        says("It MAY be, if: its LINE's RAILWAY is one of the LAW's, and the LINE is not OUT (else it is answered 1);");
        RailPasses x = new RailPasses();
        for (int l = 0; l < 14; l++) {
            x.line(0, 1, l % 5, 1, false);
            x.train(l, true, 0, 1, false, 0);
        }
        for (int r = 0; r < 5; r++) {
            Due.read(x, 0, "days 1 of 1;price 1;rail " + r + ";");
            int pass = x.sell(0, 0, false);
            for (int l = 0; l < 14; l++) {
                is("rail " + r + ", line " + l, x.may(pass, l, 0), l % 5 == r ? 0 : 1);
            }
        }
        for (int out : new int[] {0, 6, 13}) {
            Due.read(x, 0, "days 1 of 1;price 1;line " + out + " out;");
            int pass = x.sell(0, 0, false);
            for (int l = 0; l < 14; l++) {
                is("line " + out + " out, line " + l, x.may(pass, l, 0), l == out ? 1 : 0);
            }
        }
    }

    private void barredByDay() {
        says("its COUNTED DAY is good (2);");
        RailPasses x = Lands.sold("days 1 of 3;price 1;night 22;", 10);
        row("may on #", day -> x.may(0, 0, day), 2, 2, 2, 2, 2, 2, 2, 2, 2, 2, 0, 0, 0, 2, 2);
        row("may by night on #", day -> x.may(0, 3, day), 2, 2, 2, 2, 2, 2, 2, 2, 2, 0, 0, 0, 2, 2, 2);
    }

    private void barredByLoss() {
        says("the PASS is not LOST (3);");
        RailPasses x = Lands.sold("days 1 of 1;price 1;", 10);
        x.sell(0, 10, false);
        is("not LOST", x.may(0, 0, 10), 0);
        x.lose(0);
        is("LOST", x.may(0, 0, 10), 3);
        is("ride", x.ride(0, 0, 10), STATE);
        is("another is not", x.may(1, 0, 10), 0);
    }

    private void barredByDaysSpent() {
        says("with it not more than N DAYS are COUNTED (each once) (4);");
        RailPasses x = Lands.sold("days 1 of 9;price 1;", 0);
        is("first", x.ride(0, 0, 3), 0);
        is("same DAY", x.ride(0, 0, 3), 0);
        is("same DAY, another TRAIN", x.ride(0, 2, 3), 0);
        is("another DAY", x.may(0, 0, 4), 4);
        is("an earlier one", x.may(0, 0, 2), 4);
        is("the same DAY again", x.may(0, 0, 3), 0);
        RailPasses y = Lands.sold("days 2 of 9;price 1;night 22;", 0);
        y.sell(0, 0, false);
        is("night of 3", y.ride(0, 3, 3), 0);
        is("DAY 4 counts with it", y.ride(0, 0, 4), 0);
        is("so it is one", y.pass(0, 3), 1);
        is("DAY 3 is a second", y.ride(0, 0, 3), 0);
        is("night of 2 counts with that", y.may(0, 3, 2), 0);
        is("night of 4 is a third", y.may(0, 3, 4), 4);
        is("of another PASS not", y.may(1, 3, 4), 0);
        // As many as forty, the greatest number of RIDES.
        RailPasses z = Lands.sold("days 39 of 60;price 1;", 0);
        for (int day = 0; day < 39; day++) {
            is("day " + day, z.ride(0, 0, day), 0);
        }
        is("one more than 39", z.may(0, 0, 39), 4);
        is("one of the 39", z.may(0, 0, 38), 0);
        z.giveBack(5);
        is("one is free", z.may(0, 0, 39), 0);
    }

    private void barredByQuota() {
        says("the TRAIN is not FAST, or fewer than QUOTA RIDES are on it that DAY (5).");
        RailPasses x = Lands.sold("days 2 of 2;price 1;night 0;", 1);
        x.sell(0, 1, false);
        // TRAIN 5 goes OVER MIDNIGHT, so that its DAY and its COUNTED DAY are unlike.
        x.train(0, true, 1320, 120, true, 2000);
        is("none of 2", x.may(0, 5, 0), 0);
        x.ride(0, 5, 0);
        is("1 of 2", x.may(0, 5, 0), 0);
        x.ride(1, 5, 0);
        is("2 of 2", x.may(0, 5, 0), 5);
        is("2 of 2, another PASS", x.may(1, 5, 0), 5);
        is("another DAY", x.may(0, 5, 1), 0);
        is("another TRAIN", x.may(0, 1, 1), 0);
        x.giveBack(0);
        is("1 of 2 again", x.may(0, 5, 0), 0);
        x.train(0, true, 600, 1, true, 0);
        x.train(0, true, 600, 1, false, 0);
        is("FAST, QUOTA 0", x.may(0, 6, 1), 5);
        is("not FAST, QUOTA 0", x.may(0, 7, 1), 0);
    }

    private void firstBar() {
        says("(Of several the first told here; 0: it MAY be.)");
        RailPasses x = Lands.sold("days 1 of 2;price 1;rail 0;", 10);
        // TRAIN 5 and 6 are FAST and bear no RIDE; 6 is of another RAILWAY.
        x.train(0, true, 0, 1, true, 0);
        x.train(2, true, 0, 1, true, 0);
        is("nothing", x.may(0, 0, 10), 0);
        is("5", x.may(0, 5, 10), 5);
        x.ride(0, 0, 10);
        is("4", x.may(0, 0, 11), 4);
        is("4 and 5", x.may(0, 5, 11), 4);
        is("2 and 4", x.may(0, 0, 12), 2);
        is("2, 4 and 5", x.may(0, 5, 9), 2);
        is("1 and 4", x.may(0, 3, 11), 1);
        is("1, 2 and 4", x.may(0, 3, 0), 1);
        x.lose(0);
        is("3", x.may(0, 0, 10), 3);
        is("3 and 5", x.may(0, 5, 10), 3);
        is("3 and 4", x.may(0, 0, 11), 3);
        is("3, 4 and 5", x.may(0, 5, 11), 3);
        is("2, 3, 4 and 5", x.may(0, 5, 12), 2);
        is("2 and 3", x.may(0, 0, 9), 2);
        is("1 and 3", x.may(0, 3, 10), 1);
        is("all five", x.may(0, 6, 12), 1);
    }

    private void pays() {
        says("It PAYS: FAST, if the TRAIN is FAST; and of a BOAT, BOAT percents of FARE (the rest away).");
        int[][] told = {{0, 0}, {999, 0}, {0, 100}, {999, 100}, {7, 33}, {1, 99}, {5, 1}};
        for (int[] t : told) {
            RailPasses x = Lands.sold("days 1 of 1;price 1;fast " + t[0] + ";boat " + t[1] + ";", 0);
            x.train(1, true, 0, 1, true, 9500);
            x.train(1, true, 0, 1, false, 1);
            x.train(1, true, 0, 1, false, 0);
            String law = "fast " + t[0] + ", boat " + t[1];
            is("plain, " + law, x.ride(0, 0, 0), 0);
            is("FAST, " + law, x.ride(0, 1, 0), t[0]);
            is("BOAT of 55, " + law, x.ride(0, 2, 0), 55 * t[1] / 100);
            is("FAST BOAT of 500, " + law, x.ride(0, 5, 0), t[0] + 5 * t[1]);
            is("BOAT of 1, " + law, x.ride(0, 6, 0), t[1] == 100 ? 1 : 0);
            is("BOAT of 0, " + law, x.ride(0, 7, 0), 0);
        }
        // Whether it is a BOAT is told by its LINE alone, not by where that goes.
        RailPasses y = new RailPasses();
        y.line(0, 9, 0, 10, true);
        y.line(1, 9, 1, 10, false);
        y.train(0, true, 0, 1, false, 100);
        y.train(1, true, 0, 1, false, 100);
        Due.read(y, 0, "days 1 of 1;price 1;boat 50;");
        y.sell(0, 0, false);
        is("BOAT from 0", y.ride(0, 0, 0), 50);
        is("RAIL from 1", y.ride(0, 1, 0), 0);
    }

    private void ridesAtMost() {
        says("RIDES are 40 at most, in the order in which they come;");
        RailPasses x = Lands.sold("days 1 of 1;price 1;", 0);
        x.sell(0, 0, false);
        for (int i = 0; i < 40; i++) {
            is("RIDE not yet there", x.rideOf(i, 0), NUMBER);
            is("ride " + i, x.ride(i % 2, i % 3 == 0 ? 0 : 2, 0), 0);
        }
        is("ride 40", x.ride(0, 0, 0), FULL);
        is("rides", x.many(4), 40);
        for (int i = 0; i < 40; i++) {
            is("PASS of " + i, x.rideOf(i, 0), i % 2);
            is("TRAIN of " + i, x.rideOf(i, 1), i % 3 == 0 ? 0 : 2);
        }
        is("one more", x.rideOf(40, 0), NUMBER);
    }

    private void givenBack() {
        says("one may be GIVEN BACK (it goes; those behind move up).");
        for (int gone : new int[] {0, 1, 20, 38, 39}) {
            RailPasses x = Lands.sold("days 40 of 40;price 1;", 0);
            for (int day = 0; day < 40; day++) {
                x.ride(0, 0, day);
            }
            is("giveBack(" + gone + ") of 40", x.giveBack(gone), 39);
            for (int i = 0; i < 39; i++) {
                is("DAY of " + i + " without " + gone, x.rideOf(i, 2), i < gone ? i : i + 1);
            }
            is("no 40th", x.rideOf(39, 2), NUMBER);
            is("room for one", x.ride(0, 2, 0), 0);
            is("which is the last", x.rideOf(39, 1), 2);
            is("and no more", x.ride(0, 2, 0), FULL);
        }
        // All of a ride moves up.
        RailPasses y = Lands.sold("days 3 of 9;price 1;fast 7;boat 50;night 22;", 0);
        y.sell(0, 0, false);
        y.ride(0, 0, 1);
        y.ride(1, 4, 2);
        y.ride(1, 3, 3);
        y.giveBack(0);
        row("rideOf(0, #)", what -> y.rideOf(0, what), 1, 4, 2, 2, 57);
        row("rideOf(1, #)", what -> y.rideOf(1, what), 1, 3, 3, 4, 0);
        is("its train has none", y.taken(0, 1), 0);
        is("its PASS has none", y.pass(0, 3), 0);
    }

    private void lostStaysSo() {
        says("A PASS that is LOST stays so.");
        RailPasses x = Lands.sold("days 2 of 2;price 100;lost 10;", 0);
        x.ride(0, 0, 0);
        x.lose(0);
        x.giveBack(0);
        x.days(20);
        Due.read(x, 0, "days 1 of 1;price 1;");
        x.sell(0, 0, false);
        is("lose again", x.lose(0), STATE);
        is("LOST", x.pass(0, 6), 1);
        is("may", x.may(0, 0, 0), 3);
        is("REFUND", x.pass(0, 7), 10);
        is("the other is not", x.pass(1, 6), 0);
    }

    private int refundOf(int price, int n, String rules, int spent) {
        RailPasses x = Lands.sold("days " + n + " of 60;price " + price + ";" + rules, 0);
        for (int day = 0; day < spent; day++) {
            x.ride(0, 0, day);
        }
        return x.pass(0, 7);
    }

    private void refunds() {
        says("REFUND of a PASS: what it COSTS times (N less its COUNTED DAYS) times REFUND (if LOST: LOST) percents, by 100 N, "
            + "the rest away.");
        is("all", refundOf(999, 60, "refund 100;", 0), 999);
        is("without refund", refundOf(999, 60, "lost 100;", 0), 0);
        is("nothing of 0", refundOf(0, 1, "refund 100;", 0), 0);
        is("none is left", refundOf(999, 2, "refund 100;", 2), 0);
        is("one of two is left", refundOf(999, 2, "refund 100;", 1), 499);
        is("one of 40 is left", refundOf(999, 40, "refund 100;", 39), 24);
        is("20 of 60 are left", refundOf(100, 60, "refund 50;", 40), 16);
        // The rest goes away once, in the end: 99 * 2 * 99 by 300 is 65.34; 99 * 2 by 3 is 66.
        is("the rest away once", refundOf(99, 3, "refund 99;", 1), 65);
        is("the rest away once", refundOf(1, 1, "refund 99;", 0), 0);
        is("the rest away once", refundOf(199, 3, "refund 50;", 1), 66);
        RailPasses x = Lands.sold("days 3 of 9;price 100;child 51;refund 100;lost 50;", 0);
        x.sell(0, 0, true);
        x.ride(1, 0, 0);
        x.ride(1, 0, 0);
        is("of a CHILD, one DAY spent twice", x.pass(1, 7), 34);
        x.lose(1);
        is("LOST", x.pass(1, 7), 17);
        is("of the other", x.pass(0, 7), 100);
        x.giveBack(0);
        is("the DAY is spent still", x.pass(1, 7), 17);
        x.giveBack(0);
        is("GIVEN BACK", x.pass(1, 7), 25);
    }

    private void sells() {
        says("A PASS is sold: its number.");
        RailPasses x = Lands.trainsBy("days 1 of 1;price 1;");
        is("first", x.sell(0, 5, false), 0);
        is("refused", x.sell(0, 121, false), NUMBER);
        is("refused", x.sell(1, 5, false), NONE);
        is("second", x.sell(0, 5, false), 1);
        is("passes", x.many(3), 2);
    }

    private void sellRefused() {
        says("NUMBER: there is no such LAW, or start isn't 0 to 120; NONE: the LAW was never read; FULL.");
        RailPasses x = Lands.trains();
        is("none", x.sell(0, 0, false), NONE);
        is("none", x.sell(1, 120, true), NONE);
        Due.read(x, 1, "x");
        is("none behind a fault", x.sell(1, 0, false), NONE);
        Due.read(x, 1, "days 1 of 1;price 1;");
        for (int round = 0; round < 2; round++) {
            refusesOutside(0, 2, "sell(#, 0)", v -> x.sell(v, 0, false));
            refusesOutside(0, 120, "sell(1, #)", v -> x.sell(1, v, false));
            refusesOutside(0, 120, "sell(0, #) without a LAW", v -> x.sell(0, v, false));
            is("none of LAW 0", x.sell(0, 0, false), NONE);
            is("none of LAW 2", x.sell(2, 0, false), NONE);
            for (int i = 0; i < 8 && round == 0; i++) {
                is("sell " + i, x.sell(1, 120 * (i % 2), false), i);
            }
        }
        is("full", x.sell(1, 0, false), FULL);
        is("passes", x.many(3), 8);
    }

    private void ofAPass() {
        says("Of a PASS: what = 0 what it COSTS, 1 its LAW's number, 2 START, 3 COUNTED DAYS, 4 RIDES, 5 what all these PAY, "
            + "6 1 if LOST, else 0, 7 REFUND, 8 the last DAY that is good.");
        RailPasses x = Lands.trains();
        Due.read(x, 2, "days 3 of 10;price 100;refund 50;lost 25;fast 7;boat 50;night 20;");
        x.sell(2, 5, false);
        x.sell(2, 120, false);
        row("pass(0, #)", what -> x.pass(0, what), 100, 2, 5, 0, 0, 0, 0, 50, 14);
        x.ride(0, 1, 5);
        x.ride(0, 2, 5);
        x.ride(0, 3, 5);
        x.ride(0, 4, 6);
        row("pass(0, #) then", what -> x.pass(0, what), 100, 2, 5, 2, 4, 7 + 27 + 57, 0, 16, 14);
        row("pass(1, #)", what -> x.pass(1, what), 100, 2, 120, 0, 0, 0, 0, 50, 129);
        x.lose(0);
        row("pass(0, #) lost", what -> x.pass(0, what), 100, 2, 5, 2, 4, 7 + 27 + 57, 1, 8, 14);
    }

    private void passRefused() {
        says("NUMBER: there is none such, another what.");
        RailPasses x = Lands.sold("days 1 of 1;price 1;", 0);
        refusesOutside(0, 0, "pass(#, 0)", v -> x.pass(v, 0));
        refusesOutside(0, 8, "pass(0, #)", v -> x.pass(0, v));
        x.sell(0, 0, false);
        refusesOutside(0, 1, "pass(#, 8)", v -> x.pass(v, 8));
        is("pass(1, 8)", x.pass(1, 8), 0);
    }

    private void mayAnswers() {
        says("Whether a RIDE MAY be: 0, or what bars it (1 to 5).");
        RailPasses x = Lands.sold("days 1 of 2;price 1;line 2 out;", 0);
        x.train(0, true, 0, 1, true, 0);
        x.ride(0, 0, 0);
        is("0", x.may(0, 0, 0), 0);
        is("1", x.may(0, 3, 0), 1);
        is("2", x.may(0, 0, 2), 2);
        is("4", x.may(0, 0, 1), 4);
        is("5", x.may(0, 5, 0), 5);
        is("nothing is ridden by asking", x.many(4), 1);
        x.lose(0);
        is("3", x.may(0, 0, 0), 3);
    }

    private void mayRefused() {
        says("NUMBER: there is no such PASS, TRAIN, or DAY (0 to 120).");
        RailPasses x = Lands.sold("days 60 of 60;price 1;", 61);
        refusesOutside(0, 0, "may by #", v -> x.may(v, 0, 61));
        refusesOutside(0, 4, "may on train #", v -> x.may(0, v, 61));
        refusesOutside(0, 120, "may on day #", v -> x.may(0, 0, v));
        is("day 0", x.may(0, 0, 0), 2);
        is("day 120", x.may(0, 4, 120), 0);
    }

    private void rides() {
        says("A RIDE: what it PAYS.");
        RailPasses x = Lands.sold("days 1 of 1;price 1;fast 999;boat 100;", 0);
        is("nothing", x.ride(0, 0, 0), 0);
        is("FAST", x.ride(0, 1, 0), 999);
        is("BOAT", x.ride(0, 2, 0), 55);
        is("both", x.ride(0, 4, 0), 1100);
        is("rides", x.many(4), 4);
        is("all of them", x.pass(0, 5), 2154);
    }

    private void rideRefused() {
        says("NUMBER likewise; FULL: there are 40 RIDES; STATE: it MAY not be.");
        RailPasses x = Lands.sold("days 1 of 2;price 1;line 2 out;", 0);
        x.train(0, true, 0, 1, true, 0);
        x.sell(0, 0, false);
        x.ride(0, 0, 0);
        for (int round = 0; round < 2; round++) {
            refusesOutside(0, 1, "ride by #", v -> x.ride(v, 0, 0));
            refusesOutside(0, 5, "ride on train #", v -> x.ride(0, v, 0));
            refusesOutside(0, 120, "ride on day #", v -> x.ride(0, 0, v));
            // What MAY not be is told as STATE, but FULL is named ahead of it.
            int barred = round == 0 ? STATE : FULL;
            is("barred by 1", x.ride(0, 3, 0), barred);
            is("barred by 2", x.ride(0, 0, 2), barred);
            is("barred by 4", x.ride(0, 0, 1), barred);
            is("barred by 5", x.ride(0, 5, 0), barred);
            if (round == 0) {
                x.lose(1);
            }
            is("barred by 3", x.ride(1, 0, 0), barred);
            is("rides", x.many(4), round == 0 ? 1 : 40);
            for (int i = 1; i < 40 && round == 0; i++) {
                is("ride " + i, x.ride(0, 0, 0), 0);
            }
        }
        is("full", x.ride(0, 0, 0), FULL);
        is("though it MAY be", x.may(0, 0, 0), 0);
        is("rides", x.many(4), 40);
    }

    private void ofARide() {
        says("Of RIDE i: what = 0 PASS, 1 TRAIN, 2 DAY, 3 COUNTED DAY, 4 what it PAYS.");
        RailPasses x = Lands.sold("days 3 of 5;price 1;fast 7;boat 33;night 22;", 0);
        x.sell(0, 0, false);
        x.ride(1, 3, 2);
        x.ride(0, 4, 1);
        row("rideOf(0, #)", what -> x.rideOf(0, what), 1, 3, 2, 3, 0);
        row("rideOf(1, #)", what -> x.rideOf(1, what), 0, 4, 1, 1, 40);
    }

    private void rideOfRefused() {
        says("NUMBER: there is none such, another what.");
        RailPasses x = Lands.sold("days 1 of 1;price 1;", 0);
        is("none yet", x.rideOf(0, 0), NUMBER);
        x.ride(0, 0, 0);
        x.ride(0, 2, 0);
        refusesOutside(0, 1, "rideOf(#, 0)", v -> x.rideOf(v, 0));
        refusesOutside(0, 4, "rideOf(0, #)", v -> x.rideOf(0, v));
        refusesOutside(0, 4, "rideOf(1, #)", v -> x.rideOf(1, v));
        x.giveBack(1);
        refusesOutside(0, 0, "rideOf(#, 0) then", v -> x.rideOf(v, 0));
    }

    private void givesBack() {
        says("RIDE i is GIVEN BACK: how many there are.");
        RailPasses x = Lands.sold("days 3 of 3;price 1;", 0);
        for (int day = 0; day < 3; day++) {
            x.ride(0, 0, day);
        }
        is("of 3", x.giveBack(1), 2);
        is("of 2", x.giveBack(1), 1);
        is("the first is left", x.rideOf(0, 2), 0);
        is("of 1", x.giveBack(0), 0);
        is("rides", x.many(4), 0);
        is("of the PASS", x.pass(0, 4), 0);
    }

    private void giveBackRefused() {
        says("NUMBER: there is none such.");
        RailPasses x = Lands.sold("days 1 of 1;price 1;", 0);
        is("none yet", x.giveBack(0), NUMBER);
        x.ride(0, 0, 0);
        x.ride(0, 2, 0);
        refusesOutside(0, 1, "giveBack(#)", x::giveBack);
        is("rides", x.many(4), 2);
        x.giveBack(0);
        refusesOutside(0, 0, "giveBack(#) then", x::giveBack);
        x.giveBack(0);
        is("none any more", x.giveBack(0), NUMBER);
    }

    private void takenAnswers() {
        says("How many RIDES are on a TRAIN on a DAY.");
        RailPasses x = Lands.sold("days 60 of 60;price 1;night 22;", 61);
        x.sell(0, 61, false);
        for (int i = 0; i < 40; i++) {
            is("taken", x.taken(3, 119), i);
            x.ride(i % 2, 3, 119);
        }
        is("taken by 40", x.taken(3, 119), 40);
        is("on the COUNTED DAY", x.taken(3, 120), 0);
        is("on another TRAIN", x.taken(2, 119), 0);
        x.giveBack(39);
        is("one less", x.taken(3, 119), 39);
        x.ride(0, 0, 120);
        is("on the last DAY", x.taken(0, 120), 1);
        is("on the first DAY", x.taken(0, 0), 0);
    }

    private void takenRefused() {
        says("NUMBER: there is no such TRAIN, DAY.");
        RailPasses x = Lands.trains();
        refusesOutside(0, 4, "taken(#, 0)", v -> x.taken(v, 0));
        refusesOutside(0, 120, "taken(0, #)", v -> x.taken(0, v));
        is("taken(4, 120)", x.taken(4, 120), 0);
    }

    private void loses() {
        says("A PASS is LOST: its REFUND.");
        RailPasses x = Lands.sold("days 3 of 5;price 100;refund 90;lost 50;", 0);
        x.sell(0, 0, false);
        x.ride(0, 0, 0);
        is("REFUND ahead of it", x.pass(0, 7), 60);
        is("lose", x.lose(0), 33);
        is("REFUND then", x.pass(0, 7), 33);
        is("LOST", x.pass(0, 6), 1);
        is("lose one without RIDES", x.lose(1), 50);
        RailPasses y = Lands.sold("days 1 of 1;price 999;refund 100;", 0);
        is("lost 0", y.lose(0), 0);
        RailPasses z = Lands.sold("days 1 of 1;price 999;lost 100;", 0);
        is("lost 100", z.lose(0), 999);
    }

    private void loseRefused() {
        says("NUMBER: there is none such; STATE: it is already.");
        RailPasses x = Lands.sold("days 1 of 1;price 1;lost 100;", 0);
        x.sell(0, 0, false);
        refusesOutside(0, 1, "lose(#)", x::lose);
        is("none is LOST", x.pass(0, 6) + x.pass(1, 6), 0);
        is("lose", x.lose(1), 1);
        is("lose again", x.lose(1), STATE);
        is("and again", x.lose(1), STATE);
        is("the other is not", x.lose(0), 1);
        refusesOutside(0, 1, "lose(#) then", x::lose);
    }
}
