import java.util.function.Supplier;
import java.util.function.ToIntFunction;

/** REFUSALS and the constants of the document, and promises 32 and 33. */
final class KeptSentences extends SentenceTests {
    private static final String LAW = "days 2 of 4;price 100;line 2 out;fast 7;boat 50;night 22;refund 80;lost 40;";

    KeptSentences(Sentences sentences) {
        super(sentences);
    }

    @Override
    void all() {
        section("Terms");
        firstOneNamed();
        changeNothing();
        changeNothingWhenFull();
        tapeUsedUp();
        refusals();
        constantNumber();
        constantFull();
        constantNone();
        constantState();
        section("Promise 32");
        keeps();
        section("Promise 33");
        comesBack();
        nothingKept();
    }

    /** Something of all there is; and something else was kept. */
    private static RailPasses lively() {
        RailPasses x = Lands.trainsBy(LAW);
        x.train(0, true, 0, 1, true, 0);
        x.wish(0, 3);
        x.wish(1, 4);
        x.prove();
        x.forge(1, 2, 77);
        x.sell(0, 3, false);
        x.sell(0, 2, true);
        x.ride(0, 1, 3);
        x.ride(0, 2, 4);
        x.ride(1, 0, 4);
        x.lose(1);
        x.days(3);
        x.scan(0, 1, 0, 0);
        x.scan(0, 1, 100, 2);
        x.keep();
        x.giveBack(2);
        x.days(1);
        x.scan(1, 4, 100, 2);
        x.wish(2, 5);
        Due.feed(x, "days 1 of 9;price 9;");
        return x;
    }

    /** A call is refused, and then all is as if it had not been. */
    private void refused(Supplier<RailPasses> made, String name, int want, ToIntFunction<RailPasses> call) {
        RailPasses asked = made.get();
        RailPasses left = made.get();
        is(name, call.applyAsInt(asked), want);
        alike(name + " changes nothing", Told.ofAllKept(asked), Told.ofAllKept(left));
        alike(name + " leaves THE TAPE and ROWS", Told.ofTapeAndRows(asked), Told.ofTapeAndRows(left));
        alike(name + " leaves the bytes of THE TAPE", Told.ofReading(asked), Told.ofReading(left));
        is(name + " leaves what was kept", asked.back(), left.back());
        alike(name + " leaves all that was kept", Told.ofAllKept(asked), Told.ofAllKept(left));
    }

    private void alike(String name, String got, String want) {
        is(name, got.equals(want) ? 1 : 0, 1);
    }

    private void firstOneNamed() {
        says("REFUSALS, of several the first one named;");
        RailPasses x = new RailPasses();
        is("law: NUMBER ahead of NONE", x.law(0, 11), NUMBER);
        is("sell: NUMBER ahead of NONE", x.sell(0, 121, false), NUMBER);
        is("least: NUMBER ahead of NONE", x.least(0, -1), NUMBER);
        is("row: NUMBER ahead of NONE", x.row(0, 3), NUMBER);
        is("forge: NUMBER ahead of NONE", x.forge(0, 3, 0), NUMBER);
        is("miles: NUMBER ahead of NONE", x.miles(10, 0), NUMBER);
        is("way: NUMBER ahead of NONE", x.way(0, 10), NUMBER);
        RailPasses y = fullOfAll();
        is("line: NUMBER ahead of FULL", y.line(1, 1, 0, 1, false), NUMBER);
        is("train: NUMBER ahead of FULL", y.train(14, true, 0, 1, false, 0), NUMBER);
        is("feed: NUMBER ahead of FULL", y.feed(0, 9), NUMBER);
        is("sell: NUMBER ahead of FULL", y.sell(3, 0, false), NUMBER);
        is("sell: NONE ahead of FULL", y.sell(1, 0, false), NONE);
        is("ride: NUMBER ahead of FULL", y.ride(8, 0, 0), NUMBER);
        is("ride: FULL ahead of STATE", y.ride(0, 0, 120), FULL);
        is("ride: it MAY not be", y.may(0, 0, 120), 2);
        is("wish: NUMBER ahead of FULL", y.wish(16, 0), NUMBER);
        is("scan: NUMBER ahead of FULL", y.scan(0, 121, 0, 0), NUMBER);
        y.lose(0);
        is("lose: NUMBER", y.lose(8), NUMBER);
        is("days: NUMBER ahead of STATE", y.days(21), NUMBER);
        is("days: STATE", y.days(1), STATE);
    }

    /** All tables are full; TODAY is 120; LAW 0 alone was read. */
    private static RailPasses fullOfAll() {
        RailPasses x = new RailPasses();
        for (int i = 0; i < 14; i++) {
            x.line(i % 3, 3, i % 5, 10 + i, false);
        }
        for (int i = 0; i < 16; i++) {
            x.train(i % 14, true, 600, 60, false, 10 + i);
        }
        Due.read(x, 0, "days 2 of 4;price 100;");
        for (int i = 0; i < 8; i++) {
            x.sell(0, i, false);
        }
        for (int i = 0; i < 40; i++) {
            x.ride(i % 8, i % 16, i % 8);
        }
        for (int i = 0; i < 10; i++) {
            x.wish(i, 10 + i);
        }
        for (int i = 0; i < 6; i++) {
            x.days(20);
        }
        for (int i = 0; i < 40; i++) {
            x.scan(i % 8, i, 100 * (i % 2), i % 4);
        }
        Due.feed(x, " ".repeat(280) + "days 1 of 9;price 9;");
        return x;
    }

    private void changeNothing() {
        says("they change nothing");
        alike("nor do calls that only ask", Told.ofAllKept(lively()), asked(lively()));
        refusedNumbersOfTheLand();
        refusedNumbersOfPasses();
        refusedNumbersOfWishesAndScans();
        refused(KeptSentences::lively, "ride barred by 1", STATE, x -> x.ride(0, 3, 3));
        refused(KeptSentences::lively, "ride barred by 2", STATE, x -> x.ride(0, 0, 7));
        refused(KeptSentences::lively, "ride barred by 3", STATE, x -> x.ride(1, 0, 4));
        refused(KeptSentences::lively, "ride barred by 4", STATE, x -> x.ride(0, 0, 5));
        refused(KeptSentences::lively, "ride barred by 5", STATE, x -> x.ride(0, 5, 3));
        refused(KeptSentences::lively, "lose again", STATE, x -> x.lose(1));
        refused(KeptSentences::lively, "law never read", NONE, x -> x.law(1, 0));
        refused(KeptSentences::lively, "sell of a LAW never read", NONE, x -> x.sell(1, 0, false));
        refused(KeptSentences::lively, "least of a LAW never read", NONE, x -> x.least(1, 0));
        refused(KeptSentences::lively, "no such row", NONE, x -> x.row(x.many(6), 0));
        refused(KeptSentences::lively, "forge no such row", NONE, x -> x.forge(x.many(6), 0, 5));
        refused(KeptSentences::lively, "no miles", NONE, x -> x.miles(0, 9));
        refused(KeptSentences::lively, "no way", NONE, x -> x.way(0, 9));
        refused(Lands::trains, "unwish none", NONE, RailPasses::unwish);
        refused(Lands::trains, "back to nothing", NONE, RailPasses::back);
    }

    /** What an object tells when all has been asked once already. */
    private static String asked(RailPasses x) {
        Told.ofAllKept(x);
        Told.ofTapeAndRows(x);
        x.may(0, 0, 4);
        x.may(0, 0, 5);
        x.taken(1, 3);
        return Told.ofAllKept(x);
    }

    private void refusedNumbersOfTheLand() {
        refused(KeptSentences::lively, "line from no STATION", NUMBER, x -> x.line(10, 0, 0, 1, false));
        refused(KeptSentences::lively, "line to no STATION", NUMBER, x -> x.line(0, -1, 0, 1, false));
        refused(KeptSentences::lively, "line to the same", NUMBER, x -> x.line(3, 3, 0, 1, false));
        refused(KeptSentences::lively, "line of no RAILWAY", NUMBER, x -> x.line(0, 3, 5, 1, false));
        refused(KeptSentences::lively, "line of 301 MILES", NUMBER, x -> x.line(0, 3, 0, 301, false));
        refused(KeptSentences::lively, "train over no LINE", NUMBER, x -> x.train(3, true, 0, 1, false, 0));
        refused(KeptSentences::lively, "train at 1440", NUMBER, x -> x.train(0, true, 1440, 1, false, 0));
        refused(KeptSentences::lively, "train takes 901", NUMBER, x -> x.train(0, true, 0, 901, false, 0));
        refused(KeptSentences::lively, "train for 501", NUMBER, x -> x.train(0, true, 0, 1, false, 501));
        refused(KeptSentences::lively, "of no TRAIN", NUMBER, x -> x.of(6, 0));
        refused(KeptSentences::lively, "days 0", NUMBER, x -> x.days(0));
        refused(KeptSentences::lively, "days 21", NUMBER, x -> x.days(21));
        refused(KeptSentences::lively, "feed 0", NUMBER, x -> x.feed(-1, 0));
        refused(KeptSentences::lively, "feed 9", NUMBER, x -> x.feed(-1, 9));
        refused(KeptSentences::lively, "law 3", NUMBER, x -> x.law(3, 0));
    }

    private void refusedNumbersOfPasses() {
        refused(KeptSentences::lively, "sell of LAW 3", NUMBER, x -> x.sell(3, 0, false));
        refused(KeptSentences::lively, "sell from 121", NUMBER, x -> x.sell(0, 121, false));
        refused(KeptSentences::lively, "pass 2", NUMBER, x -> x.pass(2, 0));
        refused(KeptSentences::lively, "may on 121", NUMBER, x -> x.may(0, 0, 121));
        refused(KeptSentences::lively, "ride by 2", NUMBER, x -> x.ride(2, 0, 3));
        refused(KeptSentences::lively, "ride on train 6", NUMBER, x -> x.ride(0, 6, 3));
        refused(KeptSentences::lively, "ride on day 121", NUMBER, x -> x.ride(0, 0, 121));
        refused(KeptSentences::lively, "rideOf 2", NUMBER, x -> x.rideOf(2, 0));
        refused(KeptSentences::lively, "giveBack 2", NUMBER, x -> x.giveBack(2));
        refused(KeptSentences::lively, "giveBack -1", NUMBER, x -> x.giveBack(-1));
        refused(KeptSentences::lively, "taken on 121", NUMBER, x -> x.taken(0, 121));
        refused(KeptSentences::lively, "lose 2", NUMBER, x -> x.lose(2));
    }

    private void refusedNumbersOfWishesAndScans() {
        refused(KeptSentences::lively, "wish for train 6", NUMBER, x -> x.wish(6, 0));
        refused(KeptSentences::lively, "wish on 121", NUMBER, x -> x.wish(0, 121));
        refused(KeptSentences::lively, "choice 15", NUMBER, x -> x.choice(15));
        refused(KeptSentences::lively, "least of LAW 3", NUMBER, x -> x.least(3, 0));
        refused(KeptSentences::lively, "row 0, 3", NUMBER, x -> x.row(0, 3));
        refused(KeptSentences::lively, "forge 0, 3", NUMBER, x -> x.forge(0, 3, 5));
        refused(KeptSentences::lively, "scan of 2", NUMBER, x -> x.scan(2, 0, 0, 0));
        refused(KeptSentences::lively, "scan on 5", NUMBER, x -> x.scan(0, 5, 0, 0));
        refused(KeptSentences::lively, "scan at 1440", NUMBER, x -> x.scan(0, 0, 1440, 0));
        refused(KeptSentences::lively, "scan at station 10", NUMBER, x -> x.scan(0, 0, 0, 10));
        refused(KeptSentences::lively, "miles to 10", NUMBER, x -> x.miles(0, 10));
        refused(KeptSentences::lively, "way to 10", NUMBER, x -> x.way(0, 10));
        refused(KeptSentences::lively, "ridden on 5", NUMBER, x -> x.ridden(0, 5, 0));
        refused(KeptSentences::lively, "part on 5", NUMBER, x -> x.part(0, 0, 5));
        refused(KeptSentences::lively, "account on 5", NUMBER, x -> x.account(0, 5));
        refused(KeptSentences::lively, "many 10", NUMBER, x -> x.many(10));
    }

    private void changeNothingWhenFull() {
        refused(KeptSentences::fullOfAll, "line 14", FULL, x -> x.line(0, 1, 0, 1, false));
        refused(KeptSentences::fullOfAll, "train 16", FULL, x -> x.train(0, true, 0, 1, false, 0));
        refused(KeptSentences::fullOfAll, "byte 301", FULL, x -> x.feed(0, 1));
        refused(KeptSentences::fullOfAll, "pass 8", FULL, x -> x.sell(0, 0, false));
        refused(KeptSentences::fullOfAll, "ride 40", FULL, x -> x.ride(0, 0, 0));
        refused(KeptSentences::fullOfAll, "wish 10", FULL, x -> x.wish(0, 0));
        refused(KeptSentences::fullOfAll, "scan 40", FULL, x -> x.scan(0, 0, 0, 0));
        refused(KeptSentences::fullOfAll, "day 121", STATE, x -> x.days(1));
        refused(KeptSentences::manyRows, "row 201", FULL, RailPasses::prove);
        refused(KeptSentences::manyRows, "check of 201", FULL, RailPasses::check);
    }

    /** 180 ROWS, and 201 due. */
    private static RailPasses manyRows() {
        RailPasses x = Lands.trains();
        for (int law = 0; law < 3; law++) {
            Due.read(x, law, "days 1 of 60;price 5;");
        }
        x.wish(0, 60);
        x.prove();
        x.wish(0, 67);
        return x;
    }

    private void tapeUsedUp() {
        says("(but that THE TAPE is used up):");
        for (int wrong : new int[] {-1, 3, MIN, MAX}) {
            RailPasses x = lively();
            is("read(" + wrong + ")", x.read(wrong), NUMBER);
            is("bytes", x.many(8), 0);
            is("nothing to read", x.read(2), -100);
            alike("all else is as it was", Told.ofAllKept(x), Told.ofAllKept(lively()));
        }
        RailPasses y = lively();
        y.feed('x', 1);
        is("read with a fault", y.read(0), -120);
        is("bytes", y.many(8), 0);
        alike("all else is as it was", Told.ofAllKept(y), Told.ofAllKept(lively()));
        is("nothing of it is kept", y.back(), 1);
        is("bytes behind back", y.many(8), 0);
    }

    private void refusals() {
        says("NUMBER: there is no such thing, or a number is not as told; FULL; NONE: there is none; STATE: as told.");
        RailPasses x = fullOfAll();
        is("no such TRAIN", x.of(16, 0), RailPasses.NUMBER);
        is("a number not as told", x.days(0), RailPasses.NUMBER);
        is("full", x.wish(0, 0), RailPasses.FULL);
        is("none", x.back(), RailPasses.NONE);
        is("not now", x.days(1), RailPasses.STATE);
    }

    private void constantNumber() {
        says("The constants: `NUMBER = -1`: A number is none, or none that may be.");
        is("NUMBER", RailPasses.NUMBER, -1);
    }

    private void constantFull() {
        says("`FULL = -2`: There are as many as may be.");
        is("FULL", RailPasses.FULL, -2);
    }

    private void constantNone() {
        says("`NONE = -3`: There is none.");
        is("NONE", RailPasses.NONE, -3);
    }

    private void constantState() {
        says("`STATE = -4`: It can't be so now.");
        is("STATE", RailPasses.STATE, -4);
    }

    private void keeps() {
        says("All but THE TAPE and ROWS is kept: 1.");
        is("keep of a new one", new RailPasses().keep(), 1);
        RailPasses x = lively();
        String told = Told.ofAllKept(x);
        is("keep", x.keep(), 1);
        is("keep again", x.keep(), 1);
        alike("keeping changes nothing", Told.ofAllKept(x), told);
        is("THE TAPE stays", x.many(8), 20);
        changeAll(x);
        String tapeAndRows = x.many(8) + " " + x.many(6) + " " + x.row(0, 2);
        is("back", x.back(), 1);
        alike("all is as it was kept", Told.ofAllKept(x), told);
        is("THE TAPE is as it is now", x.many(8), 21);
        alike("and so are ROWS", x.many(8) + " " + x.many(6) + " " + x.row(0, 2), tapeAndRows);
        is("the bytes, too", x.read(2), -120);
        keepsFullTables();
    }

    private static void changeAll(RailPasses x) {
        x.line(0, 2, 4, 1, false);
        x.line(0, 9, 4, 1, true);
        x.train(4, true, 0, 1, true, 9500);
        x.feed('x', 1);
        x.sell(0, 0, true);
        x.lose(0);
        x.giveBack(0);
        x.giveBack(0);
        x.ride(2, 0, 0);
        x.unwish();
        x.unwish();
        x.wish(5, 9);
        x.prove();
        x.forge(0, 2, 55);
        x.days(20);
        x.scan(0, 20, 100, 2);
        x.scan(0, 20, 10, 1);
    }

    private void keepsFullTables() {
        RailPasses x = fullOfAll();
        x.read(0);
        String told = Told.ofAllKept(x);
        x.keep();
        for (int i = 0; i < 20; i++) {
            x.giveBack(0);
            x.unwish();
        }
        is("back of full tables", x.back(), 1);
        alike("all of them", Told.ofAllKept(x), told);
        is("FULL as they were", x.ride(0, 0, 0), FULL);
        // What is empty is kept, too.
        RailPasses y = new RailPasses();
        y.keep();
        y.line(0, 1, 0, 1, false);
        y.train(0, true, 0, 1, false, 9);
        Due.read(y, 1, "days 1 of 1;price 1;");
        y.sell(1, 0, false);
        y.ride(0, 0, 0);
        y.wish(0, 0);
        y.prove();
        y.scan(0, 0, 0, 0);
        y.days(20);
        Due.feed(y, "days");
        row("many(#) ahead of back", y::many, 1, 1, 1, 1, 1, 1, 1, 1, 4, 20);
        is("back to a new one", y.back(), 1);
        row("many(#) behind back", y::many, 0, 0, 0, 0, 0, 0, 1, 0, 4, 0);
        is("no LAW", y.law(1, 0), NONE);
        is("no WAY", y.way(0, 1), NONE);
        is("the first LINE again", y.line(5, 6, 0, 1, false), 0);
        is("no WAY of the old one", y.way(0, 1), NONE);
    }

    private void comesBack() {
        says("It becomes what was kept latest (which stays): 1.");
        RailPasses x = Lands.trains();
        x.wish(0, 1);
        x.keep();
        x.wish(0, 2);
        is("back", x.back(), 1);
        is("one WISH", x.many(5), 1);
        x.unwish();
        is("back again", x.back(), 1);
        is("one WISH again", x.many(5), 1);
        is("back without a change", x.back(), 1);
        is("one WISH still", x.many(5), 1);
        // The latest, not the first, and only that one.
        x.wish(0, 2);
        x.keep();
        x.wish(0, 3);
        x.back();
        is("two WISHES", x.many(5), 2);
        x.back();
        is("two WISHES again", x.many(5), 2);
        // What goes on behind back changes nothing of what is kept, nor do refusals.
        x.days(20);
        x.wish(9, 9);
        Due.read(x, 0, "days 1 of 1;price 1;");
        x.sell(0, 0, false);
        is("back at last", x.back(), 1);
        row("many(#)", x::many, 3, 5, 0, 0, 0, 2, 0, 0, 0, 0);
    }

    private void nothingKept() {
        says("NONE: nothing is kept.");
        is("a new one", new RailPasses().back(), NONE);
        RailPasses x = fullOfAll();
        String told = Told.ofAllKept(x);
        is("a full one", x.back(), NONE);
        alike("is as it was", Told.ofAllKept(x), told);
        x.keep();
        is("kept", x.back(), 1);
    }
}
