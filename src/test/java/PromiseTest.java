/** Each promise of the document by hand: ordinary inputs, the edges it names, wrong inputs. */
public final class PromiseTest {
    private static final int MIN = Integer.MIN_VALUE;
    private static final int MAX = Integer.MAX_VALUE;

    private final Due due = new Due("PromiseTest");

    public static void main(String[] args) {
        PromiseTest t = new PromiseTest();
        t.promise1New();
        t.promise2Line();
        t.promise3Train();
        t.promise4Of();
        t.promise5Days();
        t.promise6Feed();
        t.promise7Read();
        t.promise7Faults();
        t.promise8Law();
        t.promise9Sell();
        t.promise10Pass();
        t.promise11May();
        t.promise12Ride();
        t.promise13RideOf();
        t.promise14GiveBack();
        t.promise15Taken();
        t.promise16Lose();
        t.promise17Wish();
        t.promise18Unwish();
        t.promise19Choice();
        t.promise19Ties();
        t.promise20Least();
        t.promise21Prove();
        t.promise22Row();
        t.promise23Forge();
        t.promise24Check();
        t.promise25Scan();
        t.promise26Miles();
        t.promise27Way();
        t.promise28Ridden();
        t.promise29Part();
        t.promise30Account();
        t.promise31Many();
        t.promise32Keep();
        t.promise33Back();
        t.due.end();
    }

    private void is(String what, long got, long want) {
        due.is(what, got, want);
    }

    private void promise1New() {
        RailPasses x = new RailPasses();
        for (int what = 0; what <= 9; what++) {
            is("new many " + what, x.many(what), 0);
        }
        is("new back", x.back(), RailPasses.NONE);
        is("new law", x.law(0, 0), RailPasses.NONE);
        is("new of", x.of(0, 0), RailPasses.NUMBER);
        is("new choice", x.choice(0), 0);
        is("new choice law", x.choice(1), RailPasses.NONE);
        is("new miles", x.miles(0, 1), RailPasses.NONE);
        is("NUMBER", RailPasses.NUMBER, -1);
        is("FULL", RailPasses.FULL, -2);
        is("NONE", RailPasses.NONE, -3);
        is("STATE", RailPasses.STATE, -4);
    }

    private void promise2Line() {
        RailPasses x = new RailPasses();
        is("line", x.line(0, 9, 4, 300, true), 0);
        is("line", x.line(9, 0, 0, 1, false), 1);
        int[] wrongStations = {-1, 10, MIN, MAX};
        for (int wrong : wrongStations) {
            is("line a", x.line(wrong, 1, 0, 1, false), -1);
            is("line b", x.line(1, wrong, 0, 1, false), -1);
        }
        is("line same", x.line(3, 3, 0, 1, false), -1);
        is("line railway -1", x.line(1, 2, -1, 1, false), -1);
        is("line railway 5", x.line(1, 2, 5, 1, false), -1);
        is("line 0 miles", x.line(1, 2, 0, 0, false), -1);
        is("line 301 miles", x.line(1, 2, 0, 301, false), -1);
        for (int i = 2; i < 14; i++) {
            is("line", x.line(1, 2, 0, 7, false), i);
        }
        is("line full", x.line(1, 2, 0, 7, false), -2);
        is("line number ahead of full", x.line(1, 1, 0, 7, false), -1);
        is("lines", x.many(0), 14);
    }

    private void promise3Train() {
        RailPasses x = Lands.land();
        is("train no line", x.train(3, true, 0, 1, false, 0), -1);
        is("train line -1", x.train(-1, true, 0, 1, false, 0), -1);
        is("train departs -1", x.train(0, true, -1, 1, false, 0), -1);
        is("train departs 1440", x.train(0, true, 1440, 1, false, 0), -1);
        is("train takes 0", x.train(0, true, 0, 0, false, 0), -1);
        is("train takes 901", x.train(0, true, 0, 901, false, 0), -1);
        is("train fare -1", x.train(0, true, 0, 1, false, -1), -1);
        is("train fare -1000", x.train(0, true, 0, 1, false, -1000), -1);
        is("train fare 501", x.train(0, true, 0, 1, false, 501), -1);
        is("train fare 999", x.train(0, true, 0, 1, false, 999), -1);
        is("train fare 9501", x.train(0, true, 0, 1, false, 9501), -1);
        is("train quota 10", x.train(0, true, 0, 1, false, 10000), -1);
        is("train fare min", x.train(0, true, 0, 1, false, MIN), -1);
        is("train fare max", x.train(0, true, 0, 1, false, MAX), -1);
        is("train", x.train(2, true, 0, 1, false, 9500), 0);
        for (int i = 1; i < 16; i++) {
            is("train", x.train(0, false, 1439, 900, true, 0), i);
        }
        is("train full", x.train(0, false, 1439, 900, true, 0), -2);
        is("train number ahead of full", x.train(0, false, 1440, 900, true, 0), -1);
    }

    private void promise4Of() {
        RailPasses x = Lands.land();
        x.train(1, true, 1200, 239, false, 9500);
        x.train(2, false, 1200, 240, true, 1007);
        int[][] want = {{1, 1, 2, 1200, 239, 0, 500, 9, 0}, {2, 2, 0, 1200, 240, 1, 7, 1, 1}};
        for (int t = 0; t < 2; t++) {
            for (int what = 0; what < 9; what++) {
                is("of " + t + " " + what, x.of(t, what), want[t][what]);
            }
        }
        is("of none", x.of(2, 0), -1);
        is("of -1", x.of(-1, 0), -1);
        is("of what -1", x.of(0, -1), -1);
        is("of what 9", x.of(0, 9), -1);
    }

    private void promise5Days() {
        RailPasses x = new RailPasses();
        is("days 0", x.days(0), -1);
        is("days 21", x.days(21), -1);
        is("days -1", x.days(-1), -1);
        is("days", x.days(1), 1);
        for (int i = 1; i <= 5; i++) {
            is("days", x.days(20), 1 + 20 * i);
        }
        is("days above", x.days(20), -4);
        is("days number ahead of state", x.days(21), -1);
        is("days", x.days(19), 120);
        is("days above", x.days(1), -4);
        is("today", x.many(9), 120);
    }

    private void promise6Feed() {
        RailPasses x = new RailPasses();
        is("feed 0", x.feed(0, 0), -1);
        is("feed 9", x.feed(0, 9), -1);
        is("feed -1", x.feed(0, -1), -1);
        is("feed", x.feed(0x2020202020202020L, 1), 1);
        for (int i = 1; i <= 37; i++) {
            is("feed", x.feed(0x2020202020202020L, 8), 1 + 8 * i);
        }
        is("feed full", x.feed(0, 4), -2);
        is("feed number ahead of full", x.feed(0, 9), -1);
        is("feed", x.feed(0x202020, 3), 300);
        is("feed full", x.feed(0, 1), -2);
        is("tape", x.many(8), 300);
        is("read 300 blanks", x.read(0), -400);
        is("tape", x.many(8), 0);
        // Only the lowest n bytes come, the lowest first.
        x.feed(0x7a7a_3173_7961_64L, 5);
        x.feed(0xff00_3b31_666fL, 4);
        Due.feed(x, "price1;");
        is("read", x.read(0), 2);
        // A negative long has its highest byte last.
        x.feed(0xff20202020202020L, 8);
        is("read byte 255", x.read(0), -107);
    }

    private void promise7Read() {
        RailPasses x = new RailPasses();
        is("read", Due.read(x, 0, "price5;days1of1;"), 2);
        is("read", Due.read(x, 1, "  days 60 of 60 ; price 999 ; rail 4 ; rail 0 ; line 13 out ; line 0 out ;"
            + "night 0 ; fast 999 ; boat 100 ; child 0 ; refund 100 ; lost 100 ;  "), 12);
        is("read leading zeros", Due.read(x, 2, "days 01 of 060;price 007;"), 2);
        is("law", x.law(2, 0), 1);
        is("law", x.law(2, 1), 60);
        is("law", x.law(2, 2), 7);
        is("read many", x.many(2), 3);
        // A FAULT leaves the LAW as it was.
        is("read fault", Due.read(x, 2, "days 2 of 3;price 1;x"), -120);
        is("law stays", x.law(2, 0), 1);
        is("tape is used up", x.many(8), 0);
        for (int wrong : new int[] {-1, 3, MIN, MAX}) {
            Due.feed(x, "days 2 of 3;price 1;");
            is("read " + wrong, x.read(wrong), -1);
            is("tape is used up", x.many(8), 0);
        }
        is("read empty", x.read(0), -100);
        is("law stays", x.law(0, 2), 5);
        // A LAW read anew has nothing of the old one.
        is("read anew", Due.read(x, 1, "days 1 of 2;price 3;"), 2);
        int[] plain = {1, 2, 3, 31, 0, 24, 0, 0, 100, 0, 0};
        for (int what = 0; what < 11; what++) {
            is("law anew " + what, x.law(1, what), plain[what]);
        }
        // All there is: 8 RULES, 5 rails, 14 lines.
        StringBuilder all = new StringBuilder("days1of1;price1;night1;fast1;boat1;child1;refund1;lost1;");
        for (int i = 0; i < 5; i++) all.append("rail").append(i).append(';');
        for (int i = 0; i < 14; i++) all.append("line").append(i).append("out;");
        is("read all", Due.read(x, 0, all.toString()), 27);
        is("all rails", x.law(0, 3), 31);
        is("all out", x.law(0, 4), 16383);
    }

    private void fault(String text, int at) {
        RailPasses x = new RailPasses();
        is("fault of '" + text + "'", Due.read(x, 0, text), -100 - at);
        is("no law by '" + text + "'", x.law(0, 0), -3);
    }

    private void promise7Faults() {
        fault("", 0);
        fault("  ", 2);
        fault(";", 0);
        fault("  ;", 2);
        fault("days", 4);
        fault("days ", 5);
        fault("day 1 of 1;price 1;", 0);
        fault("dayss 1 of 1;price 1;", 0);
        fault("daysx1 of 1;price 1;", 0);
        fault(" Days 1 of 1;", 1);
        fault("days 0 of 1;", 5);
        fault("days 61 of 61;", 5);
        fault("days 60 of 61;", 11);
        fault("days 5 of 4;", 10);
        fault("days 5 of5;price", 16);
        fault("days 5 off 5;", 7);
        fault("days 5 5;", 7);
        fault("days of 5;", 5);
        fault("days 5 of ;", 10);
        fault("days 5 of 5 5;", 12);
        fault("days 5 of 5", 11);
        fault("days 5 of 5  ", 13);
        fault("days 5 of 5;;price 1;", 12);
        fault("days 0001 of 5;price 1;", 5);
        fault("price 1000;days 1 of 1;", 6);
        fault("price 0000;days 1 of 1;", 6);
        fault("price -1;days 1 of 1;", 6);
        fault("price 1 2;", 8);
        fault("price1x;", 6);
        fault("price 1,", 7);
        fault("price\t1;", 5);
        fault("price 1;price 2;", 8);
        fault("price 1; price", 9);
        fault("price 1;days 1 of 1;days 1 of 1;", 20);
        fault("price 1;", 8);
        fault("price 1; ", 9);
        fault("days 1 of 1;", 12);
        fault("rail 5;", 5);
        fault("rail 4;rail 4;", 12);
        fault("rail 4;rail 04;", 12);
        fault("line 14 out;", 5);
        fault("line 3;", 6);
        fault("line 3 ou;", 7);
        fault("line 3 outt;", 7);
        fault("line 3 out;line 2 out;line 3 out;", 27);
        fault("night 24;", 6);
        fault("night 1;night 2;", 8);
        fault("fast 1000;", 5);
        fault("fast 1;fast 1;", 7);
        fault("boat 101;", 5);
        fault("boat 1;boat 1;", 7);
        fault("child 101;", 6);
        fault("child 1;child 1;", 8);
        fault("refund 101;", 7);
        fault("refund 1;refund 1;", 9);
        fault("lost 101;", 5);
        fault("lost 1;lost 1;", 7);
        fault("days;price 1;", 4);
        fault("days 5;price 1;", 6);
        fault("price ;days 1 of 1;", 6);
        fault("rail ;price 1;days 1 of 1;", 5);
        fault("line ;price 1;days 1 of 1;", 5);
        fault("line out;price 1;days 1 of 1;", 5);
        fault("line 3 outz;", 7);
        fault("line 3 outa;", 7);
        fault("days 1 ofz 1;", 7);
        fault("days 1 aof 1;", 7);
        fault("xprice 1;", 0);
        fault("price 1;days 1 of 1;lice 1;", 20);
        fault("price 1;days 1 of 1;night", 25);
        fault("out;", 0);
        fault("of;", 0);
        fault("7;", 0);
        fault("price 1;days 1 of 1;\u0000", 20);
        fault("price 1;days 1 of 1;`", 20);
        fault("price 1;days 1 of 1;{", 20);
        fault("price 1:", 7);
        fault("price /;", 6);
    }

    private void promise8Law() {
        RailPasses x = new RailPasses();
        is("law none", x.law(2, 10), -3);
        is("law -1", x.law(-1, 0), -1);
        is("law 3", x.law(3, 0), -1);
        is("law number ahead of none", x.law(0, 11), -1);
        Due.read(x, 2, "lost 10;refund 9;child 8;boat 7;fast 6;night 5;line 4 out;rail 3;price 2;days 1 of 12;rail 1;");
        int[] want = {1, 12, 2, 10, 16, 5, 6, 7, 8, 9, 10};
        for (int what = 0; what < 11; what++) {
            is("law " + what, x.law(2, what), want[what]);
        }
        is("law what -1", x.law(2, -1), -1);
        is("law what 11", x.law(2, 11), -1);
        is("law another", x.law(1, 0), -3);
    }

    private void promise9Sell() {
        RailPasses x = new RailPasses();
        is("sell none", x.sell(0, 0, false), -3);
        is("sell number ahead of none", x.sell(0, -1, false), -1);
        Due.read(x, 1, "days 2 of 3;price 101;child 50;");
        is("sell law -1", x.sell(-1, 0, false), -1);
        is("sell law 3", x.sell(3, 0, false), -1);
        is("sell start 121", x.sell(1, 121, false), -1);
        is("sell", x.sell(1, 120, true), 0);
        is("sell", x.sell(1, 0, false), 1);
        // What was sold keeps its LAW.
        Due.read(x, 1, "days 5 of 9;price 7;");
        is("costs", x.pass(0, 0), 50);
        is("costs", x.pass(1, 0), 101);
        is("last day", x.pass(1, 8), 2);
        for (int i = 2; i < 8; i++) {
            is("sell", x.sell(1, i, true), i);
        }
        is("costs anew", x.pass(7, 0), 7);
        is("sell full", x.sell(1, 0, false), -2);
        is("sell none ahead of full", x.sell(0, 0, false), -3);
        is("sell number ahead of full", x.sell(1, 121, false), -1);
    }

    private void promise10Pass() {
        RailPasses x = Lands.trains();
        Due.read(x, 0, "days 3 of 10;price 100;child 33;refund 50;lost 25;fast 7;boat 50;night 20;");
        x.sell(0, 5, false);
        x.sell(0, 120, true);
        int[] want = {100, 0, 5, 0, 0, 0, 0, 50, 14};
        for (int what = 0; what < 9; what++) {
            is("pass " + what, x.pass(0, what), want[what]);
        }
        x.ride(0, 1, 5);
        x.ride(0, 2, 5);
        x.ride(0, 3, 5);
        x.ride(0, 4, 6);
        int[] then = {100, 0, 5, 2, 4, 7 + 27 + 0 + 57, 0, 16, 14};
        for (int what = 0; what < 9; what++) {
            is("pass then " + what, x.pass(0, what), then[what]);
        }
        is("lose", x.lose(0), 8);
        is("pass lost", x.pass(0, 6), 1);
        is("pass refund", x.pass(0, 7), 8);
        is("pass child", x.pass(1, 0), 33);
        is("pass child refund", x.pass(1, 7), 16);
        is("pass last day", x.pass(1, 8), 129);
        is("pass none", x.pass(2, 0), -1);
        is("pass -1", x.pass(-1, 0), -1);
        is("pass what -1", x.pass(0, -1), -1);
        is("pass what 9", x.pass(0, 9), -1);
    }

    private void promise11May() {
        RailPasses x = Lands.trains();
        Due.read(x, 0, "days 2 of 4;price 100;rail 0;rail 2;night 22;");
        Due.read(x, 1, "days 60 of 60;price 100;line 0 out;night 23;");
        x.sell(0, 10, false);
        x.sell(1, 61, false);
        is("may another railway", x.may(0, 2, 10), 1);
        is("may line out", x.may(1, 0, 61), 1);
        is("may line out ahead of day", x.may(1, 0, 0), 1);
        is("may too early", x.may(0, 0, 9), 2);
        is("may first day", x.may(0, 0, 10), 0);
        is("may last day", x.may(0, 0, 13), 0);
        is("may too late", x.may(0, 0, 14), 2);
        is("may night before", x.may(0, 3, 9), 0);
        is("may last night", x.may(0, 3, 13), 2);
        is("may not night by law", x.may(1, 3, 60), 2);
        is("may not night by law", x.may(1, 3, 120), 0);
        x.ride(0, 3, 9);
        x.ride(0, 1, 12);
        is("may third day", x.may(0, 0, 11), 4);
        is("may counted day", x.may(0, 0, 10), 0);
        is("may counted day by night", x.may(0, 3, 11), 0);
        x.ride(0, 1, 12);
        is("may quota", x.may(0, 1, 12), 5);
        is("may quota another day", x.may(0, 1, 10), 0);
        is("may days ahead of quota", x.may(0, 1, 13), 4);
        x.lose(0);
        is("may lost ahead of days", x.may(0, 0, 11), 3);
        is("may day ahead of lost", x.may(0, 0, 14), 2);
        is("may pass", x.may(2, 0, 0), -1);
        is("may pass", x.may(-1, 0, 0), -1);
        is("may train", x.may(0, 5, 0), -1);
        is("may train", x.may(0, -1, 0), -1);
        is("may day", x.may(0, 0, 121), -1);
        is("may day", x.may(0, 0, -1), -1);
        is("may changes nothing", x.many(4), 3);
        // No QUOTA at all bars FAST ones alone.
        RailPasses y = Lands.land();
        y.train(0, true, 0, 1, true, 5);
        y.train(0, true, 0, 1, false, 5);
        Due.read(y, 0, "days 1 of 1;price 1;");
        y.sell(0, 0, false);
        is("may quota 0", y.may(0, 0, 0), 5);
        is("may quota 0 slow", y.may(0, 1, 0), 0);
        // 24 o'clock never comes: without night the DAY itself counts.
        y.train(0, true, 1439, 1, false, 5);
        is("may without night", y.may(0, 2, 0), 0);
        // Over midnight or not, by one minute.
        y.train(0, true, 1320, 119, false, 5);
        Due.read(y, 0, "days 1 of 1;price 1;night 22;");
        y.sell(0, 0, false);
        is("may not over midnight", y.may(1, 3, 0), 0);
        is("may over midnight", y.may(1, 2, 0), 2);
    }

    private void promise12Ride() {
        RailPasses x = Lands.trains();
        Due.read(x, 0, "days 1 of 2;price 100;fast 7;boat 33;");
        x.sell(0, 0, false);
        x.sell(0, 0, true);
        is("ride plain", x.ride(0, 0, 0), 0);
        is("ride fast", x.ride(0, 1, 0), 7);
        is("ride boat", x.ride(0, 2, 0), 18);
        is("ride fast boat", x.ride(0, 4, 0), 40);
        is("ride state", x.ride(0, 0, 1), -4);
        is("ride state changes nothing", x.many(4), 4);
        is("ride child pays the same", x.ride(1, 4, 1), 40);
        is("ride pass", x.ride(2, 0, 0), -1);
        is("ride train", x.ride(0, 5, 0), -1);
        is("ride day", x.ride(0, 0, 121), -1);
        is("ride day", x.ride(0, 0, -1), -1);
        for (int i = 5; i < 40; i++) {
            is("ride", x.ride(0, 0, 0), 0);
        }
        is("ride full", x.ride(0, 0, 0), -2);
        is("ride full ahead of state", x.ride(0, 0, 1), -2);
        is("ride number ahead of full", x.ride(0, 0, 121), -1);
        is("may at full", x.may(0, 0, 0), 0);
    }

    private void promise13RideOf() {
        RailPasses x = Lands.trains();
        Due.read(x, 0, "days 3 of 5;price 100;fast 7;boat 33;night 22;");
        x.sell(0, 0, false);
        x.sell(0, 0, false);
        x.ride(1, 3, 2);
        x.ride(0, 4, 1);
        int[][] want = {{1, 3, 2, 3, 0}, {0, 4, 1, 1, 40}};
        for (int i = 0; i < 2; i++) {
            for (int what = 0; what < 5; what++) {
                is("rideOf " + i + " " + what, x.rideOf(i, what), want[i][what]);
            }
        }
        is("rideOf none", x.rideOf(2, 0), -1);
        is("rideOf -1", x.rideOf(-1, 0), -1);
        is("rideOf what 5", x.rideOf(0, 5), -1);
        is("rideOf what -1", x.rideOf(0, -1), -1);
    }

    private void promise14GiveBack() {
        RailPasses x = Lands.trains();
        Due.read(x, 0, "days 3 of 5;price 100;");
        x.sell(0, 0, false);
        is("giveBack none", x.giveBack(0), -1);
        x.ride(0, 0, 0);
        x.ride(0, 1, 0);
        x.ride(0, 2, 1);
        is("counted", x.pass(0, 3), 2);
        is("giveBack -1", x.giveBack(-1), -1);
        is("giveBack 3", x.giveBack(3), -1);
        is("giveBack", x.giveBack(0), 2);
        is("counted stays", x.pass(0, 3), 2);
        is("moved up", x.rideOf(0, 1), 1);
        is("moved up", x.rideOf(1, 1), 2);
        is("moved up", x.rideOf(2, 1), -1);
        is("giveBack", x.giveBack(1), 1);
        is("counted", x.pass(0, 3), 1);
        is("giveBack", x.giveBack(0), 0);
        is("counted", x.pass(0, 3), 0);
    }

    private void promise15Taken() {
        RailPasses x = Lands.trains();
        Due.read(x, 0, "days 3 of 5;price 100;night 0;");
        x.sell(0, 0, false);
        x.sell(0, 0, false);
        is("taken none", x.taken(3, 1), 0);
        x.ride(0, 3, 1);
        x.ride(1, 3, 1);
        x.ride(1, 3, 2);
        x.ride(1, 0, 1);
        is("taken by the day it departs", x.taken(3, 1), 2);
        is("taken", x.taken(3, 2), 1);
        is("taken", x.taken(0, 1), 1);
        is("taken", x.taken(0, 120), 0);
        is("taken train", x.taken(5, 0), -1);
        is("taken train", x.taken(-1, 0), -1);
        is("taken day", x.taken(0, 121), -1);
        is("taken day", x.taken(0, -1), -1);
    }

    private void promise16Lose() {
        RailPasses x = Lands.trains();
        Due.read(x, 0, "days 3 of 5;price 100;refund 90;lost 50;");
        x.sell(0, 0, false);
        x.ride(0, 0, 0);
        is("refund", x.pass(0, 7), 60);
        is("lose", x.lose(0), 33);
        is("lose again", x.lose(0), -4);
        is("lose none", x.lose(1), -1);
        is("lose -1", x.lose(-1), -1);
        is("ride lost", x.ride(0, 0, 0), -4);
        is("giveBack lost", x.giveBack(0), 0);
        is("refund lost", x.pass(0, 7), 50);
    }

    private void promise17Wish() {
        RailPasses x = Lands.trains();
        is("wish train", x.wish(5, 0), -1);
        is("wish train", x.wish(-1, 0), -1);
        is("wish day", x.wish(0, 121), -1);
        is("wish day", x.wish(0, -1), -1);
        for (int i = 1; i <= 10; i++) {
            is("wish", x.wish(0, 120), i);
        }
        is("wish full", x.wish(0, 0), -2);
        is("wish number ahead of full", x.wish(0, 121), -1);
    }

    private void promise18Unwish() {
        RailPasses x = Lands.trains();
        is("unwish none", x.unwish(), -3);
        x.wish(0, 1);
        x.wish(3, 1);
        is("unwish", x.unwish(), 1);
        is("the latest goes", x.choice(0), 40);
        is("unwish", x.unwish(), 0);
        is("unwish none", x.unwish(), -3);
    }

    private void choiceIs(RailPasses x, int... want) {
        for (int what = 0; what < 15; what++) {
            is("choice " + what, x.choice(what), what < want.length ? want[what] : -3);
        }
    }

    private void promise19Choice() {
        RailPasses x = Lands.trains();
        is("choice what", x.choice(-1), -1);
        is("choice what", x.choice(15), -1);
        choiceIs(x, 0, -3, -3, 0, 0);
        x.wish(0, 3);
        x.wish(3, 3);
        x.wish(1, 9);
        choiceIs(x, 180, -3, -3, 0, 0);
        // LAW 2: the night counts on day 4; FAST costs 60, not less than FARE, so TRAIN 1 does not go.
        Due.read(x, 2, "days 3 of 20;price 10;fast 60;night 22;");
        choiceIs(x, 70, 2, 0, 2, 2, 3, 4);
        Due.read(x, 2, "days 3 of 20;price 10;fast 59;night 22;");
        choiceIs(x, 69, 2, 0, 3, 3, 3, 4, 9);
        // LINE 0 out: only the night goes by it.
        Due.read(x, 2, "days 3 of 20;price 10;line 0 out;night 22;");
        choiceIs(x, 110, 2, 0, 1, 1, 4);
        Due.read(x, 2, "days 3 of 20;price 10;rail 0;");
        choiceIs(x, 90, 2, 0, 2, 2, 3, 9);
        Due.read(x, 2, "days 1 of 20;price 10;");
        choiceIs(x, 70, 2, 0, 1, 2, 3);
        Due.read(x, 2, "days 20 of 20;price 180;");
        choiceIs(x, 180, -3, -3, 0, 0);
        Due.read(x, 2, "days 20 of 20;price 179;child 0;");
        choiceIs(x, 179, 2, 0, 2, 3, 3, 9);
        // A boat: percents of FARE are paid, the rest away.
        RailPasses y = Lands.trains();
        y.wish(2, 120);
        Due.read(y, 0, "days 1 of 1;price 10;boat 33;");
        choiceIs(y, 28, 0, 120, 1, 1, 120);
        // Ten days.
        RailPasses z = Lands.trains();
        for (int i = 9; i >= 0; i--) z.wish(0, 100 + 2 * i);
        Due.read(z, 1, "days 10 of 19;price 0;");
        choiceIs(z, 0, 1, 100, 10, 10, 100, 102, 104, 106, 108, 110, 112, 114, 116, 118);
        // A night train of the last day counts on the day behind it.
        RailPasses v = Lands.trains();
        v.wish(3, 120);
        Due.read(v, 0, "days 1 of 2;price 1;night 1;");
        choiceIs(v, 1, 0, 120, 1, 1, 121);
        Due.read(v, 0, "days 1 of 1;price 1;night 1;");
        choiceIs(v, 80, -3, -3, 0, 0);
    }

    private void promise19Ties() {
        RailPasses x = Lands.trains();
        x.wish(0, 10);
        x.wish(0, 12);
        x.wish(0, 14);
        // None is ahead of a pass that costs as much.
        Due.read(x, 1, "days 1 of 9;price 40;");
        choiceIs(x, 120, -3, -3, 0, 0);
        // The lesser START, then the lesser DAY.
        Due.read(x, 1, "days 1 of 9;price 39;");
        choiceIs(x, 119, 1, 2, 1, 1, 10);
        Due.read(x, 1, "days 2 of 4;price 39;");
        choiceIs(x, 79, 1, 9, 2, 2, 10, 12);
        Due.read(x, 1, "days 2 of 9;price 39;");
        choiceIs(x, 79, 1, 4, 2, 2, 10, 12);
        // The greater saving is ahead of the lesser DAY; and the lesser LAW of several.
        x.wish(0, 14);
        choiceIs(x, 79, 1, 6, 2, 3, 10, 14);
        Due.read(x, 2, "days 2 of 5;price 39;");
        choiceIs(x, 79, 1, 6, 2, 3, 10, 14);
        Due.read(x, 0, "days 2 of 5;price 39;");
        choiceIs(x, 79, 0, 10, 2, 3, 10, 14);
        Due.read(x, 2, "days 2 of 5;price 38;");
        choiceIs(x, 78, 2, 10, 2, 3, 10, 14);
        // Days on which nothing is spared are not spent, and who pays as much as FARE does not go.
        RailPasses y = Lands.land();
        y.train(0, true, 0, 1, false, 0);
        y.train(0, true, 0, 1, false, 9);
        y.wish(0, 1);
        y.wish(1, 2);
        y.wish(0, 2);
        Due.read(y, 0, "days 5 of 5;price 0;");
        choiceIs(y, 0, 0, 0, 1, 1, 2);
    }

    private void promise20Least() {
        RailPasses x = Lands.trains();
        is("least none", x.least(0, 0), -3);
        is("least law", x.least(-1, 0), -1);
        is("least law", x.least(3, 0), -1);
        is("least number ahead of none", x.least(0, 121), -1);
        Due.read(x, 0, "days 1 of 2;price 100;child 0;");
        is("least no wish", x.least(0, 0), 100);
        is("least start", x.least(0, -1), -1);
        x.wish(0, 5);
        x.wish(3, 6);
        is("least neither", x.least(0, 3), 220);
        is("least first", x.least(0, 4), 180);
        is("least one of two", x.least(0, 5), 140);
        is("least second", x.least(0, 6), 140);
        is("least past", x.least(0, 7), 220);
        is("least 120", x.least(0, 120), 220);
    }

    private void promise21Prove() {
        RailPasses x = Lands.trains();
        is("prove", x.prove(), 0);
        x.wish(0, 3);
        is("prove no law", x.prove(), 0);
        Due.read(x, 2, "days 1 of 2;price 5;rail 4;");
        Due.read(x, 0, "days 1 of 6;price 5;");
        // STARTS below 0 are none; a LAW by which no WISH can go has rows too.
        is("prove", x.prove(), 4 + 2);
        int[][] want = {{0, 0, 5}, {0, 1, 5}, {0, 2, 5}, {0, 3, 5}, {2, 2, 45}, {2, 3, 45}};
        for (int i = 0; i < 6; i++) {
            for (int what = 0; what < 3; what++) {
                is("row " + i + " " + what, x.row(i, what), want[i][what]);
            }
        }
        // 60 and 60 and 60 STARTS for a DAY, 20 more for another: 200 fit, 201 don't.
        RailPasses y = Lands.trains();
        y.wish(0, 60);
        Due.read(y, 0, "days 1 of 60;price 5;");
        Due.read(y, 1, "days 1 of 60;price 5;");
        Due.read(y, 2, "days 1 of 60;price 5;");
        is("prove 180", y.prove(), 180);
        y.wish(0, 66);
        is("prove 198", y.prove(), 198);
        y.wish(0, 67);
        is("prove 201", y.prove(), -2);
        is("rows stay", y.many(6), 198);
        is("check full", y.check(), -2);
        Due.read(y, 2, "days 1 of 59;price 5;");
        is("prove 200", y.prove(), 200);
        is("last row", y.row(199, 1), 67);
        is("check 200", y.check(), -1);
        // STARTS 0 and 120 count too.
        RailPasses z = Lands.trains();
        RailPasses v = Lands.trains();
        for (int law = 0; law < 3; law++) {
            Due.read(z, law, "days 1 of 60;price 5;");
            Due.read(v, law, "days 1 of 60;price 5;");
        }
        z.wish(0, 59);
        z.wish(0, 65);
        is("prove from 0", z.prove(), 198);
        is("first row from 0", z.row(0, 1), 0);
        z.wish(0, 66);
        is("prove full from 0", z.prove(), -2);
        v.wish(0, 120);
        v.wish(0, 114);
        is("prove to 120", v.prove(), 198);
        is("last row to 120", v.row(197, 1), 120);
        is("check to 120", v.check(), -1);
        v.wish(0, 113);
        is("prove full to 120", v.prove(), -2);
    }

    private void promise22Row() {
        RailPasses x = Lands.trains();
        is("row none", x.row(0, 0), -3);
        is("row number ahead of none", x.row(0, 3), -1);
        is("row number ahead of none", x.row(0, -1), -1);
        Due.read(x, 1, "days 1 of 1;price 5;");
        x.wish(0, 3);
        x.prove();
        is("row", x.row(0, 0), 1);
        is("row", x.row(0, 1), 3);
        is("row", x.row(0, 2), 5);
        is("row -1", x.row(-1, 2), -3);
        is("row 1", x.row(1, 2), -3);
        is("row max", x.row(MAX, 2), -3);
        // ROWS stay as they were proved.
        x.unwish();
        is("row stays", x.row(0, 2), 5);
    }

    private void promise23Forge() {
        RailPasses x = Lands.trains();
        is("forge none", x.forge(0, 0, 1), -3);
        is("forge number ahead of none", x.forge(0, 3, 1), -1);
        Due.read(x, 1, "days 1 of 1;price 5;");
        x.wish(0, 3);
        x.prove();
        is("forge", x.forge(0, 2, MAX), 5);
        is("forge", x.forge(0, 2, MIN), MAX);
        is("row", x.row(0, 2), MIN);
        is("check", x.check(), 0);
        is("forge back", x.forge(0, 2, 5), MIN);
        is("check", x.check(), -1);
        is("forge law", x.forge(0, 0, 0), 1);
        is("check", x.check(), 0);
        is("forge law", x.forge(0, 0, 1), 0);
        is("forge start", x.forge(0, 1, 2), 3);
        is("check", x.check(), 0);
        is("forge -1", x.forge(-1, 0, 0), -3);
        is("forge 1", x.forge(1, 0, 0), -3);
        is("forge what", x.forge(0, -1, 0), -1);
    }

    private void promise24Check() {
        RailPasses x = Lands.trains();
        is("check of nothing", x.check(), -1);
        Due.read(x, 1, "days 1 of 2;price 5;");
        x.wish(0, 3);
        is("check none of two", x.check(), 0);
        x.prove();
        is("check", x.check(), -1);
        // A LAW behind it gives more rows: fewer than they should be.
        Due.read(x, 2, "days 1 of 1;price 5;");
        is("check fewer", x.check(), 2);
        x.prove();
        is("check", x.check(), -1);
        x.forge(2, 2, 6);
        x.forge(1, 1, 4);
        is("check first wrong", x.check(), 1);
        x.prove();
        x.unwish();
        is("check more than due", x.check(), 0);
        // More rows than due, the first ones being right: the first of the others.
        RailPasses y = Lands.land();
        y.train(0, true, 0, 1, false, 0);
        Due.read(y, 0, "days 1 of 1;price 5;");
        y.wish(0, 3);
        y.wish(0, 7);
        y.prove();
        y.unwish();
        is("check one more than due", y.check(), 1);
    }

    private void promise25Scan() {
        RailPasses x = Lands.trains();
        is("scan no pass", x.scan(0, 0, 0, 0), -1);
        Due.read(x, 0, "days 1 of 1;price 5;");
        x.sell(0, 100, false);
        x.days(3);
        is("scan pass", x.scan(-1, 0, 0, 0), -1);
        is("scan day", x.scan(0, -1, 0, 0), -1);
        is("scan day", x.scan(0, 4, 0, 0), -1);
        is("scan minute", x.scan(0, 0, -1, 0), -1);
        is("scan minute", x.scan(0, 0, 1440, 0), -1);
        is("scan station", x.scan(0, 0, 0, -1), -1);
        is("scan station", x.scan(0, 0, 0, 10), -1);
        for (int i = 0; i < 40; i++) {
            is("scan", x.scan(0, 3, 1439, 9), i);
        }
        is("scan full", x.scan(0, 0, 0, 0), -2);
        is("scan number ahead of full", x.scan(0, 0, 0, 10), -1);
    }

    private void promise26Miles() {
        RailPasses x = Lands.land();
        is("miles", x.miles(0, 1), 100);
        is("miles", x.miles(1, 0), 100);
        is("miles", x.miles(2, 0), 150);
        is("miles itself", x.miles(7, 7), 0);
        is("miles none", x.miles(0, 7), -3);
        is("miles a", x.miles(-1, 0), -1);
        is("miles a", x.miles(10, 0), -1);
        is("miles b", x.miles(0, -1), -1);
        is("miles b", x.miles(0, 10), -1);
        is("miles same wrong", x.miles(10, 10), -1);
        x.line(0, 2, 0, 149, false);
        is("miles shorter", x.miles(0, 2), 149);
        // The longest there is: nine lines of 300.
        RailPasses y = new RailPasses();
        for (int i = 0; i < 9; i++) y.line(i, i + 1, 0, 300, false);
        is("miles long", y.miles(9, 0), 2700);
        is("way long", y.way(9, 0), 511);
    }

    private void promise27Way() {
        RailPasses x = Lands.land();
        is("way", x.way(0, 2), 3);
        is("way", x.way(2, 0), 3);
        is("way", x.way(2, 1), 2);
        is("way itself", x.way(7, 7), 0);
        is("way none", x.way(0, 7), -3);
        is("way a", x.way(-1, 0), -1);
        is("way b", x.way(0, 10), -1);
        is("way same wrong", x.way(-1, -1), -1);
        // The least number of LINES as bits, not the fewest LINES.
        RailPasses y = new RailPasses();
        y.line(0, 1, 0, 5, false);
        y.line(1, 2, 0, 5, false);
        y.line(2, 3, 0, 5, false);
        y.line(0, 3, 0, 15, false);
        y.line(0, 3, 0, 15, false);
        is("way least number", y.way(0, 3), 7);
        y.line(0, 3, 0, 14, false);
        is("way least miles", y.way(0, 3), 32);
        // The highest bit there is.
        RailPasses z = new RailPasses();
        for (int i = 0; i < 13; i++) z.line(0, 1, 0, 5, false);
        z.line(1, 2, 0, 5, false);
        is("way high", z.way(2, 0), 8193);
    }

    private static RailPasses sold(String text) {
        RailPasses x = Lands.land();
        Due.read(x, 0, text);
        x.sell(0, 0, false);
        x.sell(0, 0, true);
        return x;
    }

    private void riddenIs(RailPasses x, int pass, int k, int... want) {
        for (int what = 0; what < 9; what++) {
            is("ridden " + pass + " " + k + " " + what, x.ridden(pass, k, what), want[what]);
        }
    }

    private void promise28Ridden() {
        RailPasses x = sold("days 1 of 1;price 5;");
        riddenIs(x, 0, 0, 0, 0, 0, 0, 0, 0, 0, 0, 0);
        x.scan(0, 0, 100, 0);
        x.scan(1, 0, 110, 2);
        x.scan(0, 0, 150, 2);
        riddenIs(x, 0, 0, 1, 0, 0, 150, 100, 50, 0, 0, 0);
        riddenIs(x, 1, 0, 0, 0, 0, 0, 0, 0, 0, 0, 0);
        // The same STATION is no LEG; a STATION without a WAY is one.
        x.scan(0, 0, 160, 2);
        x.scan(0, 0, 170, 5);
        riddenIs(x, 0, 0, 2, 1, 0, 150, 100, 50, 0, 0, 0);
        // 100 MILES in 33 minutes are DOUBTED, in 34 not.
        x.days(1);
        x.scan(0, 1, 0, 0);
        x.scan(0, 1, 33, 1);
        riddenIs(x, 0, 1, 3, 1, 1, 150, 100, 50, 0, 0, 0);
        x.scan(0, 1, 67, 0);
        riddenIs(x, 0, 1, 4, 1, 1, 250, 200, 50, 0, 0, 0);
        // On the DAY before, what came late was not KNOWN.
        riddenIs(x, 0, 0, 2, 1, 0, 150, 100, 50, 0, 0, 0);
        // One that comes late falls between two that were there: 0, 1 (late), 2 at minutes 100, 117, 150.
        x.scan(0, 0, 117, 1);
        riddenIs(x, 0, 1, 5, 1, 2, 150, 100, 50, 0, 0, 0);
        riddenIs(x, 0, 0, 2, 1, 0, 150, 100, 50, 0, 0, 0);
        is("ridden pass", x.ridden(2, 0, 0), -1);
        is("ridden pass", x.ridden(-1, 0, 0), -1);
        is("ridden k", x.ridden(0, 2, 0), -1);
        is("ridden k", x.ridden(0, -1, 0), -1);
        is("ridden what", x.ridden(0, 0, 9), -1);
        is("ridden what", x.ridden(0, 0, -1), -1);
        // Of two days none follows the other, though the minutes would.
        RailPasses z = sold("days 1 of 1;price 5;");
        z.days(1);
        z.scan(0, 1, 200, 1);
        z.scan(0, 0, 300, 0);
        z.scan(0, 1, 400, 2);
        z.scan(0, 0, 100, 1);
        riddenIs(z, 0, 1, 2, 0, 0, 150, 100, 50, 0, 0, 0);
        // Exactly 3 miles a minute are not DOUBTED; of the same minute the numbers tell the order.
        RailPasses y = sold("days 1 of 1;price 5;");
        y.line(3, 4, 3, 30, false);
        y.scan(0, 0, 10, 4);
        y.scan(0, 0, 0, 3);
        riddenIs(y, 0, 0, 1, 0, 0, 30, 0, 0, 0, 30, 0);
        y.scan(0, 0, 10, 3);
        y.scan(0, 0, 20, 4);
        riddenIs(y, 0, 0, 3, 0, 1, 60, 0, 0, 0, 60, 0);
    }

    private void promise29Part() {
        RailPasses x = sold("days 1 of 1;price 100;child 50;");
        for (int r = 0; r < 5; r++) {
            is("part without miles " + r, x.part(0, r, 0), r == 0 ? 100 : 0);
            is("part of a child " + r, x.part(1, r, 0), r == 0 ? 50 : 0);
        }
        is("part pass", x.part(2, 0, 0), -1);
        is("part pass", x.part(-1, 0, 0), -1);
        is("part railway", x.part(0, 5, 0), -1);
        is("part railway", x.part(0, -1, 0), -1);
        is("part k", x.part(0, 0, 1), -1);
        is("part k", x.part(0, 0, -1), -1);
        // 100 by 100 and 50: 66.67 and 33.33.
        x.scan(0, 0, 0, 0);
        x.scan(0, 0, 400, 2);
        is("part", x.part(0, 0, 0), 67);
        is("part", x.part(0, 1, 0), 33);
        is("part", x.part(0, 2, 0), 0);
        is("part of another", x.part(1, 0, 0), 50);
        // A single mile.
        RailPasses z = new RailPasses();
        z.line(0, 1, 3, 1, false);
        Due.read(z, 0, "days 1 of 1;price 999;");
        z.sell(0, 0, false);
        z.scan(0, 0, 0, 0);
        z.scan(0, 0, 1, 1);
        is("part of a mile", z.part(0, 3, 0), 999);
        is("part of a mile", z.part(0, 0, 0), 0);
        // Three with the same rests: what is left goes to the lesser ones.
        RailPasses y = new RailPasses();
        y.line(0, 1, 4, 10, false);
        y.line(1, 2, 2, 10, false);
        y.line(2, 3, 1, 10, false);
        Due.read(y, 0, "days 1 of 1;price 101;");
        y.sell(0, 0, false);
        y.days(1);
        y.scan(0, 0, 0, 0);
        y.scan(0, 0, 100, 3);
        int[] want = {0, 34, 34, 0, 33};
        for (int r = 0; r < 5; r++) {
            is("part of three " + r, y.part(0, r, 1), want[r]);
            is("part not known " + r, y.part(0, r, 0), r == 0 ? 101 : 0);
        }
    }

    private void promise30Account() {
        RailPasses x = sold("days 2 of 2;price 100;child 51;refund 80;lost 50;");
        x.days(1);
        x.scan(0, 1, 0, 0);
        x.scan(0, 1, 400, 2);
        is("account", x.account(0, 0), 151);
        is("account", x.account(0, 1), 67 + 51);
        is("account", x.account(1, 1), 33);
        is("account", x.account(2, 1), 0);
        // 50 by 100 and 50: 33.33 and 16.67.
        is("lose", x.lose(0), 50);
        is("account lost", x.account(0, 1), 67 - 33 + 51);
        is("account lost", x.account(1, 1), 33 - 17);
        is("account lost", x.account(0, 0), 101);
        is("lose", x.lose(1), 25);
        is("account lost", x.account(0, 1), 67 - 33 + 51 - 25);
        is("account railway", x.account(-1, 0), -1);
        is("account railway", x.account(5, 0), -1);
        is("account k", x.account(0, -1), -1);
        is("account k", x.account(0, 2), -1);
        is("account of none", new RailPasses().account(0, 0), 0);
    }

    private void promise31Many() {
        RailPasses x = Lands.trains();
        Due.read(x, 0, "days 1 of 4;price 5;");
        Due.read(x, 2, "days 1 of 1;price 5;");
        Due.read(x, 2, "days 1 of 1;price 5;");
        for (int i = 0; i < 7; i++) x.sell(0, 9, false);
        for (int i = 0; i < 6; i++) x.ride(0, 0, 9);
        for (int i = 0; i < 4; i++) x.wish(0, 9);
        is("prove", x.prove(), 5);
        x.days(8);
        for (int i = 0; i < 11; i++) x.scan(0, 1, 0, 0);
        Due.feed(x, "twelve bytes");
        int[] want = {3, 5, 2, 7, 6, 4, 5, 11, 12, 8};
        for (int what = 0; what < 10; what++) {
            is("many " + what, x.many(what), want[what]);
        }
        is("many -1", x.many(-1), -1);
        is("many 10", x.many(10), -1);
        is("many min", x.many(MIN), -1);
    }

    private void promise32Keep() {
        RailPasses x = Lands.trains();
        is("keep", x.keep(), 1);
        is("keep again", x.keep(), 1);
        Due.read(x, 0, "days 2 of 2;price 5;lost 100;");
        x.sell(0, 0, false);
        x.ride(0, 0, 0);
        x.wish(0, 0);
        x.days(2);
        x.scan(0, 1, 0, 0);
        x.scan(0, 1, 100, 2);
        is("keep", x.keep(), 1);
        // All that can change does.
        x.line(0, 2, 3, 1, false);
        x.train(0, true, 0, 1, false, 0);
        Due.read(x, 0, "days 9 of 9;price 9;");
        Due.read(x, 1, "days 9 of 9;price 9;");
        x.sell(1, 0, false);
        x.lose(0);
        x.ride(1, 0, 3);
        x.giveBack(0);
        x.wish(1, 4);
        x.days(5);
        x.scan(0, 0, 0, 0);
        is("rows", x.prove(), 10);
        Due.feed(x, "tape");
        is("way changed", x.way(0, 2), 8);
        is("back", x.back(), 1);
        int[] want = {3, 5, 1, 1, 1, 1, 10, 2, 4, 2};
        for (int what = 0; what < 10; what++) {
            is("many back " + what, x.many(what), want[what]);
        }
        is("law back", x.law(0, 0), 2);
        is("law back", x.law(1, 0), -3);
        is("lost back", x.pass(0, 6), 0);
        is("ride back", x.rideOf(0, 0), 0);
        is("choice back", x.choice(0), 5);
        is("way back", x.way(0, 2), 3);
        is("miles back", x.ridden(0, 2, 3), 150);
        is("rows stay", x.row(0, 2), 9);
        is("check", x.check(), 0);
    }

    private void promise33Back() {
        RailPasses x = Lands.trains();
        is("back none", x.back(), -3);
        is("back none changes nothing", x.many(0), 3);
        x.wish(0, 1);
        x.keep();
        x.wish(0, 2);
        is("back", x.back(), 1);
        is("wishes", x.many(5), 1);
        x.unwish();
        is("back again", x.back(), 1);
        is("wishes", x.many(5), 1);
        // What was kept does not change with what goes on behind it.
        x.days(3);
        x.keep();
        x.days(3);
        x.back();
        x.days(4);
        is("back", x.back(), 1);
        is("today", x.many(9), 3);
    }
}
