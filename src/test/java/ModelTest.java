import java.util.ArrayDeque;
import java.util.Random;

/** Random runs of calls, asked of the class and of the plain Model; seeds are fixed. */
public final class ModelTest {
    private static final int RUNS = 400;
    // More than an object is promised for, so that a run gets further; the class does not count calls.
    private static final int CALLS = 900;

    private final Due due = new Due("ModelTest");
    private final ArrayDeque<String> log = new ArrayDeque<>();
    private Random random;
    private RailPasses x;
    private Model m;
    private int calls;

    public static void main(String[] args) {
        int runs = args.length > 0 ? Integer.parseInt(args[0]) : RUNS;
        int first = args.length > 1 ? Integer.parseInt(args[1]) : 0;
        ModelTest test = new ModelTest();
        for (int seed = first; seed < first + runs && test.due.wrong() == 0; seed++) {
            test.run(seed);
        }
        test.due.end();
    }

    private void run(int seed) {
        random = new Random(seed);
        x = new RailPasses();
        m = new Model();
        calls = 0;
        log.clear();
        int mood = random.nextInt(5);
        int before = due.wrong();
        while (calls < CALLS && due.wrong() == before) {
            step(mood);
        }
        if (due.wrong() != before) {
            System.out.println("seed " + seed + ", mood " + mood + ", latest calls:");
            log.forEach(System.out::println);
        }
    }

    private void is(String call, int got, int want) {
        calls++;
        log.add(call + " -> " + want);
        if (log.size() > 60) log.removeFirst();
        due.is(call, got, want);
    }

    /** Mostly a number below size, at times a wrong one. */
    private int num(int size) {
        int r = random.nextInt(40);
        if (r == 0) return new int[] {-1, size, size + 1, Integer.MAX_VALUE, Integer.MIN_VALUE, -5}[random.nextInt(6)];
        return size <= 0 ? 0 : random.nextInt(size);
    }

    private int day() {
        int r = random.nextInt(12);
        if (r == 0) return num(121);
        if (r == 1) return 118 + random.nextInt(3);
        return random.nextInt(18);
    }

    private void step(int mood) {
        int r = random.nextInt(100);
        if (calls < 40 && r < 70) {
            land();
        } else if (r < 3) {
            land();
        } else if (r < (m.many(2) == 3 ? 6 : 15)) {
            law();
        } else if (mood == 0 ? r < 85 : r < 40) {
            ride();
        } else if (mood == 1 ? r < 85 : r < 55) {
            wish();
        } else if (mood == 2 ? r < 95 : r < 85) {
            scan();
        } else {
            other();
        }
    }

    private void land() {
        if (random.nextInt(3) != 0 && m.many(0) < 14 || random.nextInt(20) == 0 || m.many(0) == 0) {
            int stations = random.nextInt(3) == 0 ? 10 : 5;
            int a = num(stations), b = num(stations), r = num(5);
            int mi = random.nextInt(10) == 0 ? num(302) : 10 * (1 + random.nextInt(5));
            boolean boat = random.nextInt(3) == 0;
            is("line(" + a + "," + b + "," + r + "," + mi + "," + boat + ")", x.line(a, b, r, mi, boat), m.line(a, b, r, mi, boat));
            return;
        }
        int l = num(m.many(0));
        boolean forth = random.nextBoolean(), fast = random.nextBoolean();
        int departs = random.nextBoolean() ? num(1440) : 60 * random.nextInt(24) - (random.nextInt(3) == 0 ? 1 : 0);
        int takes = random.nextInt(4) == 0 && departs >= 540 ? 1440 - departs - random.nextInt(2) : num(902);
        int fare = random.nextInt(20) == 0 ? num(11000) : 1000 * random.nextInt(4) + (random.nextBoolean() ? 10 * random.nextInt(8) : random.nextInt(502));
        is("train(" + l + "," + forth + "," + departs + "," + takes + "," + fast + "," + fare + ")",
            x.train(l, forth, departs, takes, fast, fare), m.train(l, forth, departs, takes, fast, fare));
    }

    private void law() {
        int r = random.nextInt(10);
        if (r < 3) {
            int l = num(3), w = num(11);
            is("law(" + l + "," + w + ")", x.law(l, w), m.law(l, w));
        } else {
            String text = text();
            for (int at = 0; at < text.length(); at += 8) {
                int n = Math.min(8, text.length() - at);
                long eight = random.nextInt(2) == 0 && n < 8 ? random.nextLong() << 8 * n : 0;
                for (int i = 0; i < n; i++) eight |= (long) (text.charAt(at + i) & 255) << 8 * i;
                is("feed '" + text.substring(at, at + n) + "'", x.feed(eight, n), m.feed(eight, n));
            }
            if (random.nextInt(30) == 0) {
                long eight = random.nextLong();
                int n = num(10);
                is("feed(" + eight + "," + n + ")", x.feed(eight, n), m.feed(eight, n));
            }
            if (random.nextInt(25) != 0) {
                int l = num(3);
                is("read(" + l + ") of '" + text + "'", x.read(l), m.read(l));
            }
        }
    }

    private String gap(boolean must) {
        int n = random.nextInt(12) == 0 ? 2 : random.nextInt(3) == 0 ? 1 : 0;
        return " ".repeat(must ? Math.max(n, random.nextInt(20) == 0 ? 0 : 1) : n);
    }

    private int number(int size) {
        int r = random.nextInt(45);
        return r == 0 ? size : r == 1 ? 1000 + random.nextInt(2000) : random.nextInt(size);
    }

    private String rule(int kind) {
        switch (kind) {
            case 0: {
                int n = random.nextInt(4) == 0 ? 1 + number(60) : 1 + number(4);
                int within = random.nextInt(25) == 0 ? n - 1 : n + random.nextInt(random.nextBoolean() ? 4 : 20);
                return "days" + gap(false) + n + gap(false) + "of" + gap(false) + within;
            }
            case 1: return "price" + gap(false) + (random.nextBoolean() ? number(1000) : number(100));
            case 2: return "rail" + gap(false) + number(5);
            case 3: return "line" + gap(false) + number(14) + gap(false) + "out";
            case 4: return "night" + gap(false) + number(24);
            case 5: return "fast" + gap(false) + (random.nextBoolean() ? number(1000) : number(30));
            case 6: return "boat" + gap(false) + number(101);
            case 7: return "child" + gap(false) + number(101);
            case 8: return "refund" + gap(false) + number(101);
            default: return "lost" + gap(false) + number(101);
        }
    }

    private String text() {
        StringBuilder b = new StringBuilder();
        int[] kinds = {0, 1, 2, 2, 2, 3, 3, 4, 5, 6, 7, 8, 9};
        for (int i = kinds.length - 1; i > 0; i--) {
            int j = random.nextInt(i + 1);
            int t = kinds[i];
            kinds[i] = kinds[j];
            kinds[j] = t;
        }
        for (int kind : kinds) {
            boolean told = kind < 2 ? random.nextInt(25) != 0 : random.nextInt(3) == 0;
            if (told) b.append(gap(false)).append(rule(kind)).append(gap(false)).append(';');
            if (random.nextInt(200) == 0) b.append(rule(kind)).append(';');
        }
        b.append(gap(false));
        if (random.nextInt(5) == 0 && b.length() > 0) {
            int at = random.nextInt(b.length());
            switch (random.nextInt(4)) {
                case 0: b.deleteCharAt(at); break;
                case 1: b.insert(at, "dof;0 9XzAlinerailprice\u0000\u00ff\t{`/:".charAt(random.nextInt(29))); break;
                case 2: b.setLength(at); break;
                default: b.setCharAt(at, (char) random.nextInt(256));
            }
        }
        return b.toString();
    }

    private void ride() {
        int p = num(m.many(3)), t = num(m.many(1)), i = num(m.many(4));
        int d = random.nextInt(4) != 0 && p >= 0 && p < m.many(3) ? m.pass(p, 2) + random.nextInt(6) - 1 : day();
        int r = random.nextInt(20);
        if (r < 2) {
            int l = num(3);
            d = day();
            boolean child = random.nextBoolean();
            is("sell(" + l + "," + d + "," + child + ")", x.sell(l, d, child), m.sell(l, d, child));
        } else if (r < 5) {
            int w = num(9);
            is("pass(" + p + "," + w + ")", x.pass(p, w), m.pass(p, w));
        } else if (r < 8) {
            is("may(" + p + "," + t + "," + d + ")", x.may(p, t, d), m.may(p, t, d));
        } else if (r < 15) {
            is("ride(" + p + "," + t + "," + d + ")", x.ride(p, t, d), m.ride(p, t, d));
        } else if (r < 17) {
            int w = num(5);
            is("rideOf(" + i + "," + w + ")", x.rideOf(i, w), m.rideOf(i, w));
        } else if (r < 18 && random.nextInt(3) == 0) {
            is("giveBack(" + i + ")", x.giveBack(i), m.giveBack(i));
        } else if (r < 19 || random.nextInt(4) != 0) {
            is("taken(" + t + "," + d + ")", x.taken(t, d), m.taken(t, d));
        } else {
            is("lose(" + p + ")", x.lose(p), m.lose(p));
        }
    }

    private void wish() {
        int t = num(m.many(1)), d = day(), i = num(m.many(6)), w = num(3);
        int r = random.nextInt(40);
        if (r < 12) {
            is("wish(" + t + "," + d + ")", x.wish(t, d), m.wish(t, d));
        } else if (r < 15) {
            is("unwish()", x.unwish(), m.unwish());
        } else if (r < 18) {
            for (int what = 0; what < 15; what++) is("choice(" + what + ")", x.choice(what), m.choice(what));
        } else if (r < 19) {
            int what = num(15);
            is("choice(" + what + ")", x.choice(what), m.choice(what));
        } else if (r < 24) {
            int l = num(3);
            is("least(" + l + "," + d + ")", x.least(l, d), m.least(l, d));
        } else if (r < 29) {
            is("prove()", x.prove(), m.prove());
        } else if (r < 32) {
            is("row(" + i + "," + w + ")", x.row(i, w), m.row(i, w));
        } else if (r < 34) {
            int v = random.nextInt(5) == 0 ? random.nextInt() : m.row(i, w) + random.nextInt(2);
            is("forge(" + i + "," + w + "," + v + ")", x.forge(i, w, v), m.forge(i, w, v));
        } else {
            is("check()", x.check(), m.check());
        }
    }

    private void scan() {
        int p = num(Math.min(m.many(3), 3)), k = num(m.many(9) + 1), a = num(10), b = num(10), r = num(5);
        int which = random.nextInt(30);
        if (which < 12) {
            int d = m.many(9) - (random.nextBoolean() ? 0 : random.nextInt(m.many(9) + 1));
            d = random.nextInt(30) == 0 ? num(121) : d;
            int minute = random.nextInt(4) == 0 ? num(1440) : 5 * random.nextInt(30);
            int s = random.nextInt(4) == 0 ? num(10) : num(5);
            is("scan(" + p + "," + d + "," + minute + "," + s + ")", x.scan(p, d, minute, s), m.scan(p, d, minute, s));
        } else if (which < 15) {
            is("miles(" + a + "," + b + ")", x.miles(a, b), m.miles(a, b));
        } else if (which < 18) {
            is("way(" + a + "," + b + ")", x.way(a, b), m.way(a, b));
        } else if (which < 22) {
            int w = num(9);
            is("ridden(" + p + "," + k + "," + w + ")", x.ridden(p, k, w), m.ridden(p, k, w));
        } else if (which < 26) {
            is("part(" + p + "," + r + "," + k + ")", x.part(p, r, k), m.part(p, r, k));
        } else {
            is("account(" + r + "," + k + ")", x.account(r, k), m.account(r, k));
        }
    }

    private void other() {
        int r = random.nextInt(20);
        if (r < 4) {
            int n = random.nextInt(10) == 0 ? num(22) : 1 + random.nextInt(2);
            is("days(" + n + ")", x.days(n), m.days(n));
        } else if (r < 8) {
            int t = num(m.many(1)), w = num(9);
            is("of(" + t + "," + w + ")", x.of(t, w), m.of(t, w));
        } else if (r < 16) {
            int w = num(10);
            is("many(" + w + ")", x.many(w), m.many(w));
        } else if (r < 18) {
            is("keep()", x.keep(), m.keep());
        } else {
            is("back()", x.back(), m.back());
        }
    }
}
