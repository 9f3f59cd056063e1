import java.util.ArrayList;
import java.util.Arrays;
import java.util.List;
import java.util.TreeSet;

/** The document once more, in the slowest and plainest way: all CHOICES and all ways are tried. */
final class Model {
    static final int NUMBER = -1;
    static final int FULL = -2;
    static final int NONE = -3;
    static final int STATE = -4;

    record Line(int a, int b, int railway, int miles, boolean boat) { }

    record Train(int line, int from, int to, int departs, int takes, boolean fast, int fare, int quota) {
        boolean overMidnight() {
            return departs + takes >= 1440;
        }
    }

    record Law(int n, int m, int price, int rails, int out, int night, int fast, int boat, int child, int refund, int lost) {
        int get(int what) {
            return new int[] {n, m, price, rails, out, night, fast, boat, child, refund, lost}[what];
        }
    }

    record Pass(Law law, int number, int start, boolean child, boolean lost) {
        int costs() {
            return child ? law.price * law.child / 100 : law.price;
        }

        boolean good(int day) {
            return day >= start && day <= start + law.m - 1;
        }
    }

    record Ride(int pass, int train, int day) { }

    record Wish(int train, int day) { }

    record Scan(int pass, int day, int minute, int station, int known) { }

    record Choice(int cost, int law, int start, List<Integer> days, int goers) { }

    static final class World {
        final List<Line> lines = new ArrayList<>();
        final List<Train> trains = new ArrayList<>();
        final Law[] laws = new Law[3];
        final List<Pass> passes = new ArrayList<>();
        final List<Ride> rides = new ArrayList<>();
        final List<Wish> wishes = new ArrayList<>();
        final List<Scan> scans = new ArrayList<>();
        int today;

        World copy() {
            World w = new World();
            w.lines.addAll(lines);
            w.trains.addAll(trains);
            System.arraycopy(laws, 0, w.laws, 0, 3);
            w.passes.addAll(passes);
            w.rides.addAll(rides);
            w.wishes.addAll(wishes);
            w.scans.addAll(scans);
            w.today = today;
            return w;
        }
    }

    private World w = new World();
    private World kept;
    private final List<Integer> tape = new ArrayList<>();
    private List<int[]> rows = new ArrayList<>();

    private static boolean in(int v, int size) {
        return v >= 0 && v < size;
    }

    int line(int a, int b, int railway, int miles, boolean boat) {
        if (!in(a, 10) || !in(b, 10) || a == b || !in(railway, 5) || miles < 1 || miles > 300) return NUMBER;
        if (w.lines.size() == 14) return FULL;
        w.lines.add(new Line(a, b, railway, miles, boat));
        return w.lines.size() - 1;
    }

    int train(int line, boolean forth, int departs, int takes, boolean fast, int fare) {
        if (!in(line, w.lines.size()) || !in(departs, 1440) || takes < 1 || takes > 900) return NUMBER;
        if (fare < 0 || fare / 1000 > 9 || fare % 1000 > 500) return NUMBER;
        if (w.trains.size() == 16) return FULL;
        Line l = w.lines.get(line);
        w.trains.add(new Train(line, forth ? l.a : l.b, forth ? l.b : l.a, departs, takes, fast, fare % 1000, fare / 1000));
        return w.trains.size() - 1;
    }

    int of(int train, int what) {
        if (!in(train, w.trains.size()) || !in(what, 9)) return NUMBER;
        Train t = w.trains.get(train);
        return new int[] {t.line, t.from, t.to, t.departs, t.takes, t.fast ? 1 : 0, t.fare, t.quota,
            t.overMidnight() ? 1 : 0}[what];
    }

    int days(int n) {
        if (n < 1 || n > 20) return NUMBER;
        if (w.today + n > 120) return STATE;
        return w.today += n;
    }

    int feed(long eight, int n) {
        if (n < 1 || n > 8) return NUMBER;
        if (tape.size() + n > 300) return FULL;
        for (int i = 0; i < n; i++) {
            tape.add((int) (eight & 255));
            eight >>>= 8;
        }
        return tape.size();
    }

    // A piece of a TEXT: its place, and itself.
    record Piece(int place, String text) { }

    private static List<Piece> pieces(String text) {
        List<Piece> list = new ArrayList<>();
        java.util.regex.Matcher m = java.util.regex.Pattern.compile("[a-z]+|[0-9]+|[^ ]", java.util.regex.Pattern.DOTALL).matcher(text);
        while (m.find()) list.add(new Piece(m.start(), m.group()));
        return list;
    }

    private static final String FORMS = "days # of #,price #,rail #,line # out,night #,fast #,boat #,child #,refund #,lost #";

    /** What may stand at the next piece of an unfinished RULE: with all its pieces told so far. */
    private static boolean fits(List<String> soFar, String piece, java.util.Set<String> told) {
        if (soFar.isEmpty()) {
            for (String form : FORMS.split(",")) {
                if (form.split(" ")[0].equals(piece)) {
                    return piece.equals("rail") || piece.equals("line") || told.stream().noneMatch(t -> t.startsWith(piece + " "));
                }
            }
            return false;
        }
        String kind = soFar.get(0);
        String[] form = null;
        for (String f : FORMS.split(",")) if (f.split(" ")[0].equals(kind)) form = f.split(" ");
        if (soFar.size() == form.length) return piece.equals(";");
        String want = form[soFar.size()];
        if (!want.equals("#")) return piece.equals(want);
        if (!piece.matches("[0-9]{1,3}")) return false;
        int v = Integer.parseInt(piece);
        switch (kind) {
            case "days": return v <= 60 && v >= (soFar.size() == 1 ? 1 : Integer.parseInt(soFar.get(1)));
            case "rail": return v <= 4 && !told.contains("rail " + v);
            case "line": return v <= 13 && !told.contains("line " + v);
            case "night": return v <= 23;
            case "price": case "fast": return true;
            default: return v <= 100;
        }
    }

    int read(int law) {
        StringBuilder b = new StringBuilder();
        for (int v : tape) b.append((char) v);
        tape.clear();
        if (!in(law, 3)) return NUMBER;
        java.util.Set<String> told = new java.util.HashSet<>();
        List<String> soFar = new ArrayList<>();
        Law l = new Law(0, 0, 0, 0, 0, 24, 0, 0, 100, 0, 0);
        int[] t = new int[11];
        for (int i = 0; i < 11; i++) t[i] = l.get(i);
        int rules = 0;
        for (Piece p : pieces(b.toString())) {
            if (!fits(soFar, p.text, told)) return -100 - p.place;
            if (p.text.equals(";")) {
                rules++;
                int v = Integer.parseInt(soFar.get(1));
                told.add(soFar.get(0) + " " + v);
                switch (soFar.get(0)) {
                    case "days": t[0] = v; t[1] = Integer.parseInt(soFar.get(3)); break;
                    case "rail": t[3] += 1 << v; break;
                    case "line": t[4] += 1 << v; break;
                    case "price": t[2] = v; break;
                    default: t[4 + Arrays.asList("night", "fast", "boat", "child", "refund", "lost").indexOf(soFar.get(0)) + 1] = v;
                }
                soFar.clear();
            } else {
                soFar.add(p.text);
            }
        }
        boolean days = told.stream().anyMatch(s -> s.startsWith("days"));
        boolean price = told.stream().anyMatch(s -> s.startsWith("price"));
        if (!soFar.isEmpty() || !days || !price) return -100 - b.length();
        if (t[3] == 0) t[3] = 31;
        w.laws[law] = new Law(t[0], t[1], t[2], t[3], t[4], t[5], t[6], t[7], t[8], t[9], t[10]);
        return rules;
    }

    int law(int law, int what) {
        if (!in(law, 3) || !in(what, 11)) return NUMBER;
        return w.laws[law] == null ? NONE : w.laws[law].get(what);
    }

    int sell(int law, int start, boolean child) {
        if (!in(law, 3) || !in(start, 121)) return NUMBER;
        if (w.laws[law] == null) return NONE;
        if (w.passes.size() == 8) return FULL;
        w.passes.add(new Pass(w.laws[law], law, start, child, false));
        return w.passes.size() - 1;
    }

    private int counted(Law law, int train, int day) {
        Train t = w.trains.get(train);
        return t.overMidnight() && t.departs / 60 >= law.night ? day + 1 : day;
    }

    private int pays(Law law, int train) {
        Train t = w.trains.get(train);
        return (t.fast ? law.fast : 0) + (w.lines.get(t.line).boat ? t.fare * law.boat / 100 : 0);
    }

    private boolean lets(Law law, int train) {
        int line = w.trains.get(train).line;
        return (law.rails & 1 << w.lines.get(line).railway) != 0 && (law.out & 1 << line) == 0;
    }

    private TreeSet<Integer> countedDays(int pass) {
        TreeSet<Integer> set = new TreeSet<>();
        for (Ride r : w.rides) if (r.pass == pass) set.add(counted(w.passes.get(pass).law, r.train, r.day));
        return set;
    }

    private int refund(int pass) {
        Pass p = w.passes.get(pass);
        long top = (long) p.costs() * (p.law.n - countedDays(pass).size()) * (p.lost ? p.law.lost : p.law.refund);
        return (int) (top / (100L * p.law.n));
    }

    int pass(int pass, int what) {
        if (!in(pass, w.passes.size()) || !in(what, 9)) return NUMBER;
        Pass p = w.passes.get(pass);
        int rides = 0;
        int paid = 0;
        for (Ride r : w.rides) {
            if (r.pass == pass) {
                rides++;
                paid += pays(p.law, r.train);
            }
        }
        return new int[] {p.costs(), p.number, p.start, countedDays(pass).size(), rides, paid, p.lost ? 1 : 0,
            refund(pass), p.start + p.law.m - 1}[what];
    }

    int may(int pass, int train, int day) {
        if (!in(pass, w.passes.size()) || !in(train, w.trains.size()) || !in(day, 121)) return NUMBER;
        Pass p = w.passes.get(pass);
        if (!lets(p.law, train)) return 1;
        int c = counted(p.law, train, day);
        if (!p.good(c)) return 2;
        if (p.lost) return 3;
        TreeSet<Integer> set = countedDays(pass);
        set.add(c);
        if (set.size() > p.law.n) return 4;
        Train t = w.trains.get(train);
        return t.fast && taken(train, day) >= t.quota ? 5 : 0;
    }

    int ride(int pass, int train, int day) {
        int m = may(pass, train, day);
        if (m == NUMBER) return NUMBER;
        if (w.rides.size() == 40) return FULL;
        if (m != 0) return STATE;
        w.rides.add(new Ride(pass, train, day));
        return pays(w.passes.get(pass).law, train);
    }

    int rideOf(int i, int what) {
        if (!in(i, w.rides.size()) || !in(what, 5)) return NUMBER;
        Ride r = w.rides.get(i);
        Law law = w.passes.get(r.pass).law;
        return new int[] {r.pass, r.train, r.day, counted(law, r.train, r.day), pays(law, r.train)}[what];
    }

    int giveBack(int i) {
        if (!in(i, w.rides.size())) return NUMBER;
        w.rides.remove(i);
        return w.rides.size();
    }

    int taken(int train, int day) {
        if (!in(train, w.trains.size()) || !in(day, 121)) return NUMBER;
        return (int) w.rides.stream().filter(r -> r.train == train && r.day == day).count();
    }

    int lose(int pass) {
        if (!in(pass, w.passes.size())) return NUMBER;
        Pass p = w.passes.get(pass);
        if (p.lost) return STATE;
        w.passes.set(pass, new Pass(p.law, p.number, p.start, p.child, true));
        return refund(pass);
    }

    int wish(int train, int day) {
        if (!in(train, w.trains.size()) || !in(day, 121)) return NUMBER;
        if (w.wishes.size() == 10) return FULL;
        w.wishes.add(new Wish(train, day));
        return w.wishes.size();
    }

    int unwish() {
        if (w.wishes.isEmpty()) return NONE;
        w.wishes.remove(w.wishes.size() - 1);
        return w.wishes.size();
    }

    /** What it COSTS to spend these days of a LAW. */
    private Choice tried(int law, int start, List<Integer> days) {
        Law l = w.laws[law];
        int cost = l.price;
        int goers = 0;
        for (Wish wish : w.wishes) {
            int fare = w.trains.get(wish.train).fare;
            int pay = pays(l, wish.train);
            if (days.contains(counted(l, wish.train, wish.day)) && lets(l, wish.train) && pay < fare) {
                cost += pay;
                goers++;
            } else {
                cost += fare;
            }
        }
        return new Choice(cost, law, start, days, goers);
    }

    private static boolean ahead(Choice a, Choice b) {
        if (a.cost != b.cost) return a.cost < b.cost;
        if (a.law != b.law) return a.law < b.law; // NONE is the least
        if (a.start != b.start) return a.start < b.start;
        if (a.days.size() != b.days.size()) return a.days.size() < b.days.size();
        for (int i = 0; i < a.days.size(); i++) {
            if (!a.days.get(i).equals(b.days.get(i))) return a.days.get(i) < b.days.get(i);
        }
        return false;
    }

    private List<Integer> goodDays(int law, int start) {
        Law l = w.laws[law];
        TreeSet<Integer> set = new TreeSet<>();
        for (Wish wish : w.wishes) {
            int c = counted(l, wish.train, wish.day);
            if (c >= start && c <= start + l.m - 1) set.add(c);
        }
        return new ArrayList<>(set);
    }

    private Choice best(int law, int start) {
        List<Integer> good = goodDays(law, start);
        Choice best = null;
        for (int bits = 0; bits < 1 << good.size(); bits++) {
            if (Integer.bitCount(bits) > w.laws[law].n) continue;
            List<Integer> days = new ArrayList<>();
            for (int i = 0; i < good.size(); i++) if ((bits >> i & 1) == 1) days.add(good.get(i));
            Choice c = tried(law, start, days);
            if (best == null || ahead(c, best)) best = c;
        }
        return best;
    }

    private Choice theChoice() {
        int fares = 0;
        for (Wish wish : w.wishes) fares += w.trains.get(wish.train).fare;
        Choice best = new Choice(fares, NONE, NONE, List.of(), 0);
        for (int law = 0; law < 3; law++) {
            for (int start = 0; start <= 120 && w.laws[law] != null; start++) {
                Choice c = best(law, start);
                if (ahead(c, best)) best = c;
            }
        }
        return best;
    }

    int choice(int what) {
        if (!in(what, 15)) return NUMBER;
        Choice c = theChoice();
        switch (what) {
            case 0: return c.cost;
            case 1: return c.law;
            case 2: return c.start;
            case 3: return c.days.size();
            case 4: return c.goers;
            default: return what - 5 < c.days.size() ? c.days.get(what - 5) : NONE;
        }
    }

    int least(int law, int start) {
        if (!in(law, 3) || !in(start, 121)) return NUMBER;
        return w.laws[law] == null ? NONE : best(law, start).cost;
    }

    private List<int[]> dueRows() {
        List<int[]> due = new ArrayList<>();
        for (int law = 0; law < 3; law++) {
            for (int start = 0; start <= 120 && w.laws[law] != null; start++) {
                if (!goodDays(law, start).isEmpty()) due.add(new int[] {law, start, best(law, start).cost});
            }
        }
        return due;
    }

    int prove() {
        List<int[]> due = dueRows();
        if (due.size() > 200) return FULL;
        rows = due;
        return rows.size();
    }

    int row(int i, int what) {
        if (!in(what, 3)) return NUMBER;
        return in(i, rows.size()) ? rows.get(i)[what] : NONE;
    }

    int forge(int i, int what, int v) {
        int was = row(i, what);
        if (in(what, 3) && in(i, rows.size())) rows.get(i)[what] = v;
        return was;
    }

    int check() {
        List<int[]> due = dueRows();
        if (due.size() > 200) return FULL;
        for (int i = 0; i < rows.size(); i++) {
            if (i >= due.size() || !Arrays.equals(rows.get(i), due.get(i))) return i;
        }
        return rows.size() < due.size() ? rows.size() : -1;
    }

    int scan(int pass, int day, int minute, int station) {
        if (!in(pass, w.passes.size()) || !in(station, 10) || !in(day, w.today + 1) || !in(minute, 1440)) return NUMBER;
        if (w.scans.size() == 40) return FULL;
        w.scans.add(new Scan(pass, day, minute, station, w.today));
        return w.scans.size() - 1;
    }

    /** The best way from a to b over LINES not yet used: {MILES, LINES}, or null. */
    private int[] bestWay(int a, int b, int stationsUsed, int miles, int bits) {
        if (a == b) return new int[] {miles, bits};
        int[] best = null;
        for (int i = 0; i < w.lines.size(); i++) {
            Line l = w.lines.get(i);
            int to = l.a == a ? l.b : l.b == a ? l.a : -1;
            if (to < 0 || (stationsUsed >> to & 1) == 1) continue;
            int[] found = bestWay(to, b, stationsUsed | 1 << to, miles + l.miles, bits | 1 << i);
            if (found != null && (best == null || found[0] < best[0] || found[0] == best[0] && found[1] < best[1])) best = found;
        }
        return best;
    }

    private int[] wayFrom(int a, int b) {
        return bestWay(a, b, 1 << a, 0, 0);
    }

    int miles(int a, int b) {
        if (!in(a, 10) || !in(b, 10)) return NUMBER;
        int[] found = wayFrom(a, b);
        return found == null ? NONE : found[0];
    }

    int way(int a, int b) {
        if (!in(a, 10) || !in(b, 10)) return NUMBER;
        int[] found = wayFrom(a, b);
        return found == null ? NONE : found[1];
    }

    /** LEGS, those without a WAY, DOUBTED ones, all MILES, MILES of each RAILWAY. */
    private int[] told(int pass, int k) {
        List<Scan> list = new ArrayList<>();
        for (Scan s : w.scans) if (s.pass == pass && s.known <= k) list.add(s);
        list.sort(java.util.Comparator.comparingInt(Scan::day).thenComparingInt(Scan::minute));
        int[] t = new int[9];
        for (int i = 1; i < list.size(); i++) {
            Scan a = list.get(i - 1);
            Scan b = list.get(i);
            if (a.day != b.day || a.station == b.station) continue;
            t[0]++;
            int[] found = wayFrom(a.station, b.station);
            if (found == null) {
                t[1]++;
            } else if (found[0] > 3 * (b.minute - a.minute)) {
                t[2]++;
            } else {
                t[3] += found[0];
                for (int l = 0; l < w.lines.size(); l++) {
                    if ((found[1] >> l & 1) == 1) t[4 + w.lines.get(l).railway] += w.lines.get(l).miles;
                }
            }
        }
        return t;
    }

    int ridden(int pass, int k, int what) {
        if (!in(pass, w.passes.size()) || !in(what, 9) || !in(k, w.today + 1)) return NUMBER;
        return told(pass, k)[what];
    }

    private int[] parted(int amount, int[] told) {
        int[] parts = new int[5];
        if (told[3] == 0) {
            parts[0] = amount;
            return parts;
        }
        long[] rests = new long[5];
        int left = amount;
        for (int r = 0; r < 5; r++) {
            parts[r] = (int) ((long) amount * told[4 + r] / told[3]);
            rests[r] = (long) amount * told[4 + r] % told[3];
            left -= parts[r];
        }
        while (left > 0) {
            int most = 0;
            for (int r = 1; r < 5; r++) if (rests[r] > rests[most]) most = r;
            parts[most]++;
            rests[most] = -1;
            left--;
        }
        return parts;
    }

    int part(int pass, int railway, int k) {
        if (!in(pass, w.passes.size()) || !in(railway, 5) || !in(k, w.today + 1)) return NUMBER;
        return parted(w.passes.get(pass).costs(), told(pass, k))[railway];
    }

    int account(int railway, int k) {
        if (!in(railway, 5) || !in(k, w.today + 1)) return NUMBER;
        int sum = 0;
        for (int p = 0; p < w.passes.size(); p++) {
            sum += part(p, railway, k);
            if (w.passes.get(p).lost) sum -= parted(refund(p), told(p, k))[railway];
        }
        return sum;
    }

    int many(int what) {
        if (!in(what, 10)) return NUMBER;
        int laws = 0;
        for (Law l : w.laws) if (l != null) laws++;
        return new int[] {w.lines.size(), w.trains.size(), laws, w.passes.size(), w.rides.size(), w.wishes.size(),
            rows.size(), w.scans.size(), tape.size(), w.today}[what];
    }

    int keep() {
        kept = w.copy();
        return 1;
    }

    int back() {
        if (kept == null) return NONE;
        w = kept.copy();
        return 1;
    }
}
