/** Part 2 of the document (LAWS), and promises 6 to 8. */
final class LawSentences extends SentenceTests {
    private static final String NEEDED = "days 1 of 1;price 1;";
    private static final String[] KINDS = {"days 2 of 3", "price 101", "rail 4", "line 13 out", "night 5", "fast 6", "boat 7",
        "child 8", "refund 9", "lost 10"};
    private static final int[] TERMS_OF_KINDS = {2, 3, 101, 16, 1 << 13, 5, 6, 7, 8, 9, 10};

    LawSentences(Sentences sentences) {
        super(sentences);
    }

    @Override
    void all() {
        section("Terms");
        lawNumbers();
        tapeAtMost();
        tapeUsedUp();
        rulesInAnyOrder();
        forms();
        numbers();
        daysNumbers();
        words();
        numberRows();
        asLongAsTheyGo();
        blanksWhereTheyMust();
        semicolons();
        blanksBetween();
        percents();
        faultPlace();
        faultNumbers();
        faultKindAgain();
        faultNumberAgain();
        faultMoreMustCome();
        faultNeededLacks();
        lawDays();
        lawRailways();
        lawOut();
        lawNight();
        lawFast();
        lawBoat();
        lawChild();
        lawRefundAndLost();
        section("Promise 6");
        feeds();
        feedRefused();
        section("Promise 7");
        reads();
        readFault();
        readRefused();
        section("Promise 8");
        ofALaw();
        lawRefused();
    }

    /** The answer of read for a TEXT on a new object. */
    private static int readOf(String text) {
        return Due.read(new RailPasses(), 0, text);
    }

    private void good(String text, int rules) {
        is("read '" + text + "'", readOf(text), rules);
    }

    private void fault(String text, int place) {
        is("read '" + text + "'", readOf(text), -100 - place);
    }

    /** A TEXT whose fault is at the end of the first of its two pieces. */
    private void faultBehind(String sound, String rest) {
        fault(sound + rest, sound.length());
    }

    private void lawIs(RailPasses x, int law, int... want) {
        row("law(" + law + ", #)", what -> x.law(law, what), want);
    }

    private void lawNumbers() {
        says("LAWS 0 to 2 are read from TEXTS.");
        RailPasses x = new RailPasses();
        for (int law = 0; law <= 2; law++) {
            is("read(" + law + ")", Due.read(x, law, "days 1 of 1;price " + law + ";"), 2);
        }
        row("price of #", law -> x.law(law, 2), 0, 1, 2);
        for (int wrong : outside(0, 2)) {
            is("read(" + wrong + ")", Due.read(x, wrong, NEEDED), NUMBER);
        }
        row("price of # stays", law -> x.law(law, 2), 0, 1, 2);
    }

    private void tapeAtMost() {
        says("THE TAPE takes bytes, at most 300;");
        RailPasses x = new RailPasses();
        is("300 bytes", Due.feed(x, " ".repeat(280) + NEEDED), 300);
        is("one more", x.feed('x', 1), FULL);
        is("bytes", x.many(8), 300);
        is("read all 300", x.read(0), 2);
        RailPasses y = new RailPasses();
        is("299 bytes", Due.feed(y, " ".repeat(279) + NEEDED), 299);
        is("two more", y.feed(' ' << 8 | ' ', 2), FULL);
        is("one more", y.feed('x', 1), 300);
        is("read the 300th byte", y.read(0), -100 - 299);
        // 37 times 8 are 296: 4 more fit, 5 don't.
        RailPasses z = new RailPasses();
        Due.feed(z, " ".repeat(296));
        for (int n = 8; n >= 5; n--) {
            is("feed " + n, z.feed(0, n), FULL);
        }
        is("feed 4", z.feed(0, 4), 300);
    }

    private void tapeUsedUp() {
        says("read() uses it up, whatever it answers.");
        RailPasses x = new RailPasses();
        is("read", Due.read(x, 0, NEEDED), 2);
        is("bytes behind a LAW", x.many(8), 0);
        is("nothing is left", x.read(1), -100);
        is("fault", Due.read(x, 0, "x"), -100);
        is("bytes behind a fault", x.many(8), 0);
        is("nothing is left", x.read(1), -100);
        is("no such LAW", Due.read(x, 3, NEEDED), NUMBER);
        is("bytes behind NUMBER", x.many(8), 0);
        is("nothing is left", x.read(1), -100);
        is("no such LAW, a fault", Due.read(x, -1, "x"), NUMBER);
        is("nothing is left", x.read(1), -100);
        // A full TAPE takes 300 again.
        Due.feed(x, "x".repeat(300));
        is("read full", x.read(0), -100);
        is("full again", Due.feed(x, " ".repeat(300)), 300);
        is("blanks alone", x.read(0), -400);
        // A text in two parts, with a read between, is two texts.
        is("first part", Due.read(x, 1, "days 1 of 1;"), -112);
        is("second part", Due.read(x, 1, "price 1;"), -108);
        is("no LAW of them", x.law(1, 0), NONE);
        // Of a longer TEXT nothing is left behind a shorter one, wherever that ends.
        RailPasses y = new RailPasses();
        String text = "days 11 of 22;price 333;";
        for (int cut = 0; cut < text.length(); cut++) {
            is("the longer one", Due.read(y, 0, text), 2);
            is("cut at " + cut, Due.read(y, 0, text.substring(0, cut)), readOf(text.substring(0, cut)));
        }
    }

    private void rulesInAnyOrder() {
        says("TEXT: { RULE ; }, RULES in any order:");
        for (int turn = 0; turn < 10; turn++) {
            StringBuilder up = new StringBuilder();
            StringBuilder down = new StringBuilder();
            for (int i = 0; i < 10; i++) {
                up.append(KINDS[(turn + i) % 10]).append(';');
                down.append(KINDS[(turn + 10 - i) % 10]).append(';');
            }
            RailPasses x = new RailPasses();
            is("read from kind " + turn + " on", Due.read(x, 0, up.toString()), 10);
            is("read from kind " + turn + " back", Due.read(x, 1, down.toString()), 10);
            lawIs(x, 0, TERMS_OF_KINDS);
            lawIs(x, 1, TERMS_OF_KINDS);
        }
        fault("", 0);
        fault(";", 0);
        fault("days 1 of 1 price 1;", 12);
        fault("days 1 of 1;price 1", 19);
    }

    private void forms() {
        says("days N of M | price N | rail R | line L out | night H | fast N | boat N | child N | refund N | lost N");
        String[] pieces = {"days", "of", "out", "price", "rail", "x", "7", "0", ";", "!", "A"};
        for (String kind : KINDS) {
            String[] due = (kind + " ;").split(" ");
            // Needed RULES of other kinds stand ahead, so that the end alone may be at fault.
            StringBuilder sound = new StringBuilder(kind.startsWith("days") ? "price 1;" : "days 1 of 1;");
            sound.append(kind.startsWith("days") || kind.startsWith("price") ? "" : "price 1;");
            int rules = kind.startsWith("days") || kind.startsWith("price") ? 2 : 3;
            for (int i = 0; i < due.length; i++) {
                if (i > 0) {
                    fault(sound.toString(), sound.length());
                }
                for (String piece : pieces) {
                    boolean bothNumbers = Character.isDigit(piece.charAt(0)) && Character.isDigit(due[i].charAt(0));
                    boolean begins = i == 0 && (piece.equals("rail") || kind.equals("price 101") && piece.equals("price"));
                    if (!piece.equals(due[i]) && !bothNumbers && !begins) {
                        faultBehind(sound + " ", piece + " ");
                    }
                }
                sound.append(' ').append(due[i]);
            }
            good(sound.toString(), rules);
        }
        // Words that are only like the right ones.
        for (String kind : KINDS) {
            for (int at = 0; at < kind.indexOf(' '); at++) {
                char other = kind.charAt(at) == 'z' ? 'a' : (char) (kind.charAt(at) + 1);
                faultBehind("", kind.substring(0, at) + other + kind.substring(at + 1) + ";");
            }
        }
        faultBehind("days 1 ", "pf 1;");
        faultBehind("days 1 ", "og 1;");
        faultBehind("line 1 ", "put;");
        faultBehind("line 1 ", "ovt;");
        faultBehind("line 1 ", "ouu;");
        for (String word : new String[] {"day", "prices", "rails", "lines", "nights", "faster", "boats", "children", "refunds",
            "losts", "los", "pric", "rai", "lin", "nigh", "fas", "boa", "chil", "refun", "d", "linen", "loss"}) {
            faultBehind(NEEDED, word + " 1;");
        }
        faultBehind("line 1 ", "ou;");
        faultBehind("line 1 ", "outs;");
        faultBehind("line 1 ", "of;");
        faultBehind("days 1 ", "off 1;");
        faultBehind("days 1 ", "o 1;");
        faultBehind("days 1 ", "out 1;");
        faultBehind("days 1 of 1 ", "out;");
        faultBehind("rail 1 ", "out;");
    }

    private void oneNumber(String ahead, int greatest, String behind) {
        for (int v : new int[] {0, 1, greatest / 2, greatest - 1, greatest}) {
            good(NEEDED.replace(ahead + "1;", "") + ahead + v + behind, ahead.equals("price ") ? 2 : 3);
        }
        for (int v : new int[] {greatest + 1, greatest + 2, 1000, 1001, 65536, 65536 + greatest}) {
            faultBehind(NEEDED.replace(ahead + "1;", "") + ahead, v + behind);
        }
        faultBehind(NEEDED.replace(ahead + "1;", "") + ahead, "-1" + behind);
    }

    private void numbers() {
        says("N, M are numbers 0 to 999, R 0 to 4, L 0 to 13, H 0 to 23;");
        oneNumber("price ", 999, ";");
        oneNumber("fast ", 999, ";");
        oneNumber("rail ", 4, ";");
        oneNumber("line ", 13, " out;");
        oneNumber("night ", 23, ";");
        RailPasses x = new RailPasses();
        Due.read(x, 0, "days 1 of 1;price 999;rail 4;line 13 out;night 23;fast 999;");
        lawIs(x, 0, 1, 1, 999, 16, 1 << 13, 23, 999);
        Due.read(x, 0, "days 1 of 1;price 0;rail 0;line 0 out;night 0;fast 0;");
        lawIs(x, 0, 1, 1, 0, 1, 1, 0, 0);
    }

    private void daysNumbers() {
        says("of days N is 1 to 60, and M is N to 60.");
        for (int n = 1; n <= 60; n++) {
            good("price 1;days " + n + " of " + n + ";", 2);
            good("price 1;days " + n + " of 60;", 2);
            faultBehind("price 1;days " + n + " of ", n - 1 + ";");
            faultBehind("price 1;days " + n + " of ", "61;");
        }
        for (int n : new int[] {0, 61, 62, 100, 257, 316, 999}) {
            faultBehind("price 1;days ", n + " of 60;");
            faultBehind("price 1;days ", n + " of " + n + ";");
        }
        faultBehind("days 1 of ", "999;");
        faultBehind("days 1 of ", "0;");
    }

    private void words() {
        says("WORDS are rows of letters a to z,");
        // ` and { stand next to a and z.
        for (char next : new char[] {'`', '{', 'A', 'Z', '@', '[', '_', (char) 0, (char) 127, (char) 228, (char) 255}) {
            faultBehind("", next + "days 1 of 1;price 1;");
            faultBehind("days", next + " 1 of 1;price 1;");
            faultBehind(NEEDED, next + "");
            faultBehind("line 1 out", next + ";");
        }
        faultBehind("", "aprice 1;");
        faultBehind("", "zprice 1;");
        faultBehind("", "pricea 1;");
        faultBehind("", "pricez 1;");
        faultBehind("", "Price 1;");
        faultBehind("", "pRICE 1;");
    }

    private void numberRows() {
        says("NUMBERS rows of digits,");
        // / and : stand next to 0 and 9.
        for (char next : new char[] {'/', ':', '.', ',', '-', '+', (char) 178, (char) 0}) {
            faultBehind("price ", next + "1;");
            faultBehind("price 1", next + ";");
            faultBehind("days 1", next + " of 1;");
        }
        RailPasses x = new RailPasses();
        Due.read(x, 0, "days 09 of 60;price 908;");
        lawIs(x, 0, 9, 60, 908);
    }

    private void asLongAsTheyGo() {
        says("both as long as they go,");
        faultBehind("", "dayss 1 of 1;");
        faultBehind("", "railrail 1;");
        faultBehind("days 1 ", "ofof 1;");
        faultBehind("price 1", "x;");
        faultBehind("price ", "12345;");
        good("days 1 of 1;price 123;", 2);
        good("days 12 of 34;price 1;", 2);
        faultBehind("days 1 of 1;price 12 ", "3;");
        faultBehind("days 1 ", "2 of 34;");
        faultBehind("", "da ys 1 of 1;");
        faultBehind("days 1 ", "o f 1;");
        // A WORD that the end cuts short is a WORD, and none that may stand there.
        faultBehind("", "d");
        faultBehind("", "day");
        faultBehind("days 1 of 1;", "pric");
        faultBehind("days 1 ", "o");
        faultBehind("line 1 ", "ou");
        faultBehind("days 12 of ", "1");
    }

    private void blanksWhereTheyMust() {
        says("parted by blanks (32) where they must be,");
        good("days1of1;price1;", 2);
        good("price1;line3out;days1of60;", 3);
        faultBehind("days1of1;price1;", "linenight 3;");
        // No other byte is a blank.
        for (char next : new char[] {9, 10, 11, 12, 13, 31, 33, 0, 160, 28}) {
            faultBehind("days", next + "1 of 1;");
            faultBehind("", next + NEEDED);
            faultBehind(NEEDED, next + "");
            faultBehind("days 1", next + "of 1;");
            faultBehind("days 1 of 1", next + ";");
        }
    }

    private void semicolons() {
        says("; stands for itself;");
        faultBehind("", ";");
        faultBehind(NEEDED, ";");
        faultBehind("days 1 of 1;", ";price 1;");
        faultBehind("days 1 of 1", ":price 1;");
        faultBehind("days 1 of 1", "<price 1;");
        faultBehind("days 1 of 1", ",price 1;");
        faultBehind("days ", ";");
        faultBehind("days", ";");
        faultBehind("price ", ";1;");
    }

    private void blanksBetween() {
        says("blanks may stand between any.");
        String text = "days 2 of 3 ; price 101 ; rail 4 ; line 13 out ; night 5 ; fast 6 ; boat 7 ; child 8 ; refund 9 ; lost 10 ;";
        RailPasses x = new RailPasses();
        is("none but what must be", Due.read(x, 0, text.replace(" ", "")), 10);
        is("one between any", Due.read(x, 1, text), 10);
        is("many between any", Due.read(x, 2, "  days 2 of 3 ; price 101 ; line 13 out ; ".replace(" ", "       ")), 3);
        lawIs(x, 0, TERMS_OF_KINDS);
        lawIs(x, 1, TERMS_OF_KINDS);
        lawIs(x, 2, 2, 3, 101, 31, 1 << 13, 24, 0, 0, 100, 0, 0);
        good("     " + NEEDED, 2);
        good(NEEDED + "     ", 2);
        faultBehind("     ", ";");
        faultBehind(NEEDED + "     ", "7");
    }

    private void percents() {
        says("boat, child, refund and lost have 100 at most (they are percents).");
        for (String kind : new String[] {"boat ", "child ", "refund ", "lost "}) {
            good(NEEDED + kind + "0;", 3);
            good(NEEDED + kind + "99;", 3);
            good(NEEDED + kind + "100;", 3);
            for (int v : new int[] {101, 102, 200, 256, 356, 999, 1000}) {
                faultBehind(NEEDED + kind, v + ";");
            }
        }
        RailPasses x = new RailPasses();
        Due.read(x, 0, NEEDED + "boat 100;child 100;refund 100;lost 100;");
        lawIs(x, 0, 1, 1, 1, 31, 0, 24, 0, 100, 100, 100, 100);
    }

    private void faultPlace() {
        says("FAULT: the place (from 0) of the first byte of the first WORD, NUMBER or other byte with which no TEXT goes on");
        fault("x", 0);
        fault(" x", 1);
        fault("1", 0);
        fault("!", 0);
        fault("wrong words; wrong again", 0);
        faultBehind("days 1 ", "wrong 1; wrong again");
        faultBehind("days 1 of 1; ", "wrong");
        faultBehind("days 1 of 1;price", "; price 1000;");
        // The first fault is told, though the rest would lack what is needed.
        faultBehind("fast 1;", "fast 2");
        // The greatest place there is.
        fault(" ".repeat(279) + NEEDED + "x", 299);
        fault(" ".repeat(300), 300);
        // A byte is 0 to 255, wherever it stands among the eight.
        for (int at = 0; at < 8; at++) {
            RailPasses x = new RailPasses();
            x.feed(0x2020202020202020L & ~(255L << 8 * at) | 255L << 8 * at, 8);
            is("byte 255 at " + at, x.read(0), -100 - at);
        }
    }

    private void faultNumbers() {
        says("(so a NUMBER of more than 3 digits, or one that is not as told;");
        String[] tooLong = {"0000", "0001", "1000", "9999", "00000000000000000001", "4294967297", "18446744073709551617"};
        for (String number : tooLong) {
            faultBehind("price ", number + ";");
            faultBehind("fast ", number + ";");
            faultBehind("days ", number + " of 1;");
            faultBehind("days 1 of ", number + ";");
            faultBehind("rail ", number + ";");
            faultBehind("line ", number + " out;");
            faultBehind("night ", number + ";");
            faultBehind("boat ", number + ";");
        }
        good("days 001 of 060;price 000;rail 004;line 013 out;night 023;fast 099;child 100;", 7);
        faultBehind("rail ", "005;");
        faultBehind("days ", "000 of 1;");
        faultBehind("night ", "024;");
    }

    private void faultKindAgain() {
        says("a RULE of a kind that was there already, but for rail and line, has it at its first WORD;");
        for (String kind : KINDS) {
            if (!kind.startsWith("rail") && !kind.startsWith("line")) {
                faultBehind(kind + ";", kind + ";");
                faultBehind(kind + ";  ", kind.split(" ")[0]);
                faultBehind(kind + ";rail 1;", kind.split(" ")[0] + " 9999;");
                faultBehind(kind + ";line 1 out;", kind.split(" ")[0] + " wrong;");
            }
        }
        // Though the first one was 0, as it is without one.
        faultBehind("fast 0;", "fast 0;");
        faultBehind("child 100;", "child 100;");
        faultBehind("price 0;", "price 1;");
        good("days 1 of 1;price 1;rail 1;rail 2;line 1 out;line 2 out;", 6);
    }

    private void faultNumberAgain() {
        says("rail R and line L out that were there already: at the NUMBER);");
        for (int r = 0; r < 5; r++) {
            faultBehind("rail " + r + ";rail ", r + ";");
            faultBehind("rail " + r + ";line " + r + " out;rail ", "0" + r + ";");
        }
        for (int l = 0; l < 14; l++) {
            faultBehind("line " + l + " out;line ", l + " out;");
            faultBehind("line " + l + " out;price 1;line ", l + " wrong");
        }
        // Others of the kind between them, and all of the kind.
        faultBehind("rail 0;rail 1;rail 2;rail 3;rail 4;rail ", "4;");
        faultBehind("line 0 out;line 13 out;line ", "0 out;");
        // The numbers of rails are none of lines.
        good("days 1 of 1;price 1;rail 3;line 3 out;", 4);
    }

    private void faultMoreMustCome() {
        says("the end (how many bytes there are), if more must come;");
        for (String text : new String[] {"days", "days 1", "days 1 of", "days 1 of 1", "price", "price 1", "rail", "line", "line 1",
            "line 1 out", "days 1 of 1;price 1;lost", "days 1 of 1;price 1;lost 5"}) {
            fault(text, text.length());
            fault(text + "   ", text.length() + 3);
        }
    }

    private void faultNeededLacks() {
        says("if all is read, and a days or a price lacks, the end, too.");
        fault("", 0);
        fault("   ", 3);
        fault("days 1 of 1;", 12);
        fault("days 1 of 1;  ", 14);
        fault("price 1;", 8);
        fault("price 0; ", 9);
        String others = "rail 0;line 0 out;night 0;fast 0;boat 0;child 0;refund 0;lost 0;";
        fault(others, others.length());
        fault(others + "price 1;", others.length() + 8);
        fault("days 1 of 1;" + others, others.length() + 12);
        good(others + "price 1;days 1 of 1;", 10);
    }

    private void lawDays() {
        says("A LAW has: N DAYS within M; PRICE;");
        RailPasses x = new RailPasses();
        Due.read(x, 0, "days 1 of 1;price 0;");
        lawIs(x, 0, 1, 1, 0);
        Due.read(x, 0, "days 60 of 60;price 999;");
        lawIs(x, 0, 60, 60, 999);
        Due.read(x, 0, "price 5;days 1 of 60;");
        lawIs(x, 0, 1, 60, 5);
    }

    private int termOf(String rules, int what) {
        RailPasses x = new RailPasses();
        Due.read(x, 0, NEEDED + rules);
        return x.law(0, what);
    }

    private void lawRailways() {
        says("RAILWAYS (those of rail; all, without one);");
        is("without one", termOf("", 3), 31);
        for (int r = 0; r < 5; r++) {
            is("rail " + r, termOf("rail " + r + ";", 3), 1 << r);
        }
        is("all five", termOf("rail 4;rail 2;rail 0;rail 1;rail 3;", 3), 31);
        is("two", termOf("rail 4;rail 0;", 3), 17);
    }

    private void lawOut() {
        says("LINES that are OUT;");
        is("without one", termOf("", 4), 0);
        StringBuilder all = new StringBuilder();
        for (int l = 0; l < 14; l++) {
            is("line " + l, termOf("line " + l + " out;", 4), 1 << l);
            all.append("line ").append(l).append(" out;");
        }
        is("all fourteen", termOf(all.toString(), 4), (1 << 14) - 1);
    }

    private void lawNight() {
        says("NIGHT (an hour; without one 24);");
        is("without one", termOf("", 5), 24);
        is("0", termOf("night 0;", 5), 0);
        is("23", termOf("night 23;", 5), 23);
    }

    private void lawFast() {
        says("FAST (a supplement; 0 without);");
        is("without one", termOf("", 6), 0);
        is("0", termOf("fast 0;", 6), 0);
        is("999", termOf("fast 999;", 6), 999);
    }

    private void lawBoat() {
        says("BOAT (percents of a FARE; 0 without);");
        is("without one", termOf("", 7), 0);
        is("0", termOf("boat 0;", 7), 0);
        is("100", termOf("boat 100;", 7), 100);
    }

    private void lawChild() {
        says("CHILD (percents of PRICE; 100 without);");
        is("without one", termOf("", 8), 100);
        is("0", termOf("child 0;", 8), 0);
        is("100", termOf("child 100;", 8), 100);
    }

    private void lawRefundAndLost() {
        says("REFUND, LOST (percents; 0 without).");
        is("refund without one", termOf("lost 7;", 9), 0);
        is("refund 100", termOf("refund 100;", 9), 100);
        is("lost without one", termOf("refund 7;", 10), 0);
        is("lost 100", termOf("lost 100;", 10), 100);
    }

    private void feeds() {
        says("n bytes (1 to 8) come to THE TAPE, the lowest of eight first: how many it has.");
        for (int n = 1; n <= 8; n++) {
            RailPasses x = new RailPasses();
            // Seven blanks and an x: only with the eighth byte there is something.
            is("feed " + n, x.feed(0x7820202020202020L, n), n);
            is("bytes", x.many(8), n);
            is("feed " + n + " more", x.feed(0x7820202020202020L, n), 2 * n);
            is("read", x.read(0), n == 8 ? -107 : -100 - 2 * n);
        }
        // p r i c e 1 ; from the lowest byte up, one by one and all at once.
        long text = 0x3b316563697270L;
        RailPasses y = new RailPasses();
        for (int i = 0; i < 7; i++) {
            is("byte " + i, y.feed(text >>> 8 * i, 1), i + 1);
        }
        Due.feed(y, "days1of1;");
        is("one by one", y.read(0), 2);
        y.feed(text, 7);
        Due.feed(y, "days1of1;");
        is("all at once", y.read(0), 2);
        is("a long below 0", y.feed(-1L, 8), 8);
        is("has bytes 255", y.read(0), -100);
    }

    private void feedRefused() {
        says("NUMBER; FULL: more than 300.");
        RailPasses x = new RailPasses();
        refusesOutside(1, 8, "feed #", n -> x.feed(0, n));
        is("bytes", x.many(8), 0);
        Due.feed(x, " ".repeat(299));
        is("two more", x.feed(0, 2), FULL);
        is("bytes", x.many(8), 299);
        is("one more", x.feed(' ', 1), 300);
        is("one more", x.feed(' ', 1), FULL);
        refusesOutside(1, 8, "feed # when full", n -> x.feed(0, n));
        is("bytes", x.many(8), 300);
        is("they are as they were", x.read(0), -400);
    }

    private void reads() {
        says("THE TAPE is the TEXT of a LAW: how many RULES;");
        good(NEEDED, 2);
        StringBuilder all = new StringBuilder("days1of1;price1;night1;fast1;boat1;child1;refund1;lost1;");
        for (int r = 0; r < 5; r++) {
            all.append("rail").append(r).append(';');
        }
        for (int l = 0; l < 14; l++) {
            all.append("line").append(l).append("out;");
        }
        good(all.toString(), 27);
        // What was read ahead of it leaves nothing: neither terms nor kinds.
        RailPasses x = new RailPasses();
        is("all", Due.read(x, 0, all.toString()), 27);
        is("all again", Due.read(x, 0, all.toString()), 27);
        is("few", Due.read(x, 0, NEEDED), 2);
        lawIs(x, 0, 1, 1, 1, 31, 0, 24, 0, 0, 100, 0, 0);
        is("a kind that only the last TEXT had", Due.read(x, 0, "price 1;lost 1;"), -115);
    }

    private void readFault() {
        says("-100 less its FAULT (the LAW stays as it was).");
        RailPasses x = new RailPasses();
        is("fault at 0", x.read(0), -100);
        is("no LAW of it", x.law(0, 0), NONE);
        Due.read(x, 0, "days 2 of 3;price 101;rail 4;line 13 out;night 5;fast 6;boat 7;child 8;refund 9;lost 10;");
        String other = "days 7 of 8;price 9;rail 1;line 1 out;night 1;fast 1;boat 1;child 1;refund 1;lost 1;";
        is("fault behind all", Due.read(x, 0, other + "x"), -100 - other.length());
        lawIs(x, 0, TERMS_OF_KINDS);
        is("fault at the end", Due.read(x, 0, "days 7 of 8;"), -112);
        lawIs(x, 0, TERMS_OF_KINDS);
        is("nor is there another LAW", x.many(2), 1);
        is("fault for another", Due.read(x, 1, "x"), -100);
        is("it is not there", x.law(1, 0), NONE);
        // Nothing of a TEXT with a fault goes into the next one.
        is("next", Due.read(x, 1, NEEDED), 2);
        lawIs(x, 1, 1, 1, 1, 31, 0, 24, 0, 0, 100, 0, 0);
    }

    private void readRefused() {
        says("NUMBER.");
        RailPasses x = new RailPasses();
        for (int wrong : outside(0, 2)) {
            is("read(" + wrong + ")", Due.read(x, wrong, NEEDED), NUMBER);
            is("read(" + wrong + ") of a fault", Due.read(x, wrong, "x"), NUMBER);
            is("read(" + wrong + ") of nothing", x.read(wrong), NUMBER);
        }
        is("no LAW", x.many(2), 0);
        is("used up", x.many(8), 0);
    }

    private void ofALaw() {
        says("Of a LAW: what = 0 N, 1 M, 2 PRICE, 3 RAILWAYS as bits, 4 LINES that are OUT as bits, 5 NIGHT, 6 FAST, 7 BOAT, "
            + "8 CHILD, 9 REFUND, 10 LOST.");
        RailPasses x = new RailPasses();
        Due.read(x, 2, "days 2 of 3;price 101;rail 4;line 13 out;night 5;fast 6;boat 7;child 8;refund 9;lost 10;");
        Due.read(x, 0, NEEDED);
        lawIs(x, 2, TERMS_OF_KINDS);
        lawIs(x, 0, 1, 1, 1, 31, 0, 24, 0, 0, 100, 0, 0);
    }

    private void lawRefused() {
        says("NUMBER: there is none such, another what; NONE: it was never read.");
        RailPasses x = new RailPasses();
        for (int round = 0; round < 2; round++) {
            refusesOutside(0, 2, "law(#, 0)", v -> x.law(v, 0));
            refusesOutside(0, 2, "law(#, 11)", v -> x.law(v, 11));
            refusesOutside(0, 10, "law(1, #)", v -> x.law(1, v));
            is("law(1, 10)", x.law(1, 10), round == 0 ? NONE : 7);
            is("law(0, 0)", x.law(0, 0), NONE);
            is("law(2, 0)", x.law(2, 0), NONE);
            Due.read(x, 1, NEEDED + "lost 7;");
        }
    }
}
