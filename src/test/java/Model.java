import java.util.ArrayList;
import java.util.Arrays;
import java.util.List;

/**
 * The document once more, as plainly as can be: nothing is counted ahead, nothing is kept that can be asked anew.
 * FuzzTest holds BedOffice against it.
 */
final class Model {
    static final int NONE = -1;
    static final int LEAST = Integer.MIN_VALUE;
    static final List<String> CLAUSES = List.of("ahead", "share", "limit", "sum", "must", "show");
    static final List<String> NAMES = List.of("heads", "pupils", "lame", "tongue", "trade", "clan", "nights", "wish",
            "kin", "rooms", "stairs", "miles", "seats", "wanted", "all", "beds", "day", "own");

    static final class Town { int mile, schools, seats, trades; boolean full; long sums; }
    static final class Home { int number; Town town; int rooms, stairs, kept, from, till; }
    static final class Family {
        int number, heads, pupils, lame, tongue, trade, clan, nights, came;
        Home home; boolean gone; Town wish;
    }
    static final class Record { int number, list, name, born, from, to; Family family; List<Record> heap; }
    static final class Seeking { Family family; int name, born; }
    static final class Sheet { Node[] clauses = new Node[6]; int came; int struck = 1000; }
    static final class Day { int[] where; int[] towns; int inHall, housed, gone, came, sum; }
    static final class Boat { int day, low, high; }
    static final class Node { String what; Node one, two; int number; }

    final List<Town> towns = new ArrayList<>();
    final List<Home> homes = new ArrayList<>();
    final List<Family> families = new ArrayList<>();
    final List<Record> records = new ArrayList<>();
    final List<Seeking> seekings = new ArrayList<>();
    final List<Sheet> sheets = new ArrayList<>();
    final List<Day> days = new ArrayList<>();
    final List<Boat> boats = new ArrayList<>();
    final List<int[]> bedTellings = new ArrayList<>();
    final int[][] apart = new int[6][6];
    int[][] whys = new int[0][0];
    String text = "";
    int now;
    int beds;

    static boolean in(int n, int low, int high) { return n >= low && n <= high; }
    static <T> T at(List<T> list, int n) { return in(n, 0, list.size() - 1) ? list.get(n) : null; }

    int town(int mile, int what, int trades) {
        if (!in(mile, 0, 999) || !in(what, 0, 99999) || !in(what / 100, 0, 15) || !in(what % 100, 0, 40)) return NONE;
        if (!in(trades, 0, 63) || towns.size() == 8) return NONE;
        Town t = new Town();
        t.mile = mile; t.schools = what / 100; t.seats = what % 100; t.trades = trades;
        towns.add(t);
        return towns.size() - 1;
    }

    boolean full(int town, boolean full) {
        Town t = at(towns, town);
        if (t == null || t.full == full) return false;
        t.full = full;
        return true;
    }

    int home(int town, int what, int days) {
        Town t = at(towns, town);
        if (t == null || what < 0 || days < 0) return NONE;
        Home h = new Home();
        h.town = t; h.rooms = what / 100; h.stairs = what / 10 % 10; h.kept = what % 10;
        h.from = days / 1000; h.till = days % 1000; h.number = homes.size();
        if (!in(h.rooms, 1, 9) || !in(h.stairs, 0, 1) || !in(h.kept, 0, 4)) return NONE;
        if (!in(h.from, 0, 200) || !in(h.till, 0, 200) || h.from > h.till || homes.size() == 24) return NONE;
        homes.add(h);
        return h.number;
    }

    boolean beds(int n) {
        if (!in(n, 0, 200)) return false;
        beds = n;
        return true;
    }

    int family(int what, int kind) {
        if (what < 0 || kind < 0 || families.size() == 24) return NONE;
        Family f = new Family();
        f.number = families.size(); f.heads = what / 100; f.pupils = what / 10 % 10; f.lame = what % 10;
        f.tongue = kind / 100; f.trade = kind / 10 % 10; f.clan = kind % 10; f.came = now;
        if (!in(f.heads, 1, 9) || !in(f.pupils, 0, f.heads) || !in(f.lame, 0, 1)) return NONE;
        if (!in(f.tongue, 0, 3) || !in(f.trade, 0, 5) || !in(f.clan, 0, 5)) return NONE;
        families.add(f);
        return f.number;
    }

    boolean wish(int family, int town) {
        Family f = at(families, family);
        Town t = at(towns, town);
        if (f == null || f.gone || (t == null && town != NONE)) return false;
        f.wish = t;
        return true;
    }

    boolean apart(int one, int other, int miles) {
        if (!in(one, 0, 5) || !in(other, 0, 5) || one == other || !in(miles, 0, 200)) return false;
        apart[Math.min(one, other)][Math.max(one, other)] = miles;
        return true;
    }

    int record(int list, int name, int born, int seen, int family) {
        forgetKin();
        Family f = at(families, family);
        if (!in(list, 0, 2) || !in(name, 0, 999999) || !in(born, 0, 120) || seen < 0) return NONE;
        if (!in(seen / 1000, 0, 200) || !in(seen % 1000, 0, 200) || seen / 1000 > seen % 1000) return NONE;
        if ((f == null && family != NONE) || records.size() == 60) return NONE;
        Record r = new Record();
        r.number = records.size(); r.list = list; r.name = name; r.born = born; r.family = f;
        r.from = seen / 1000; r.to = seen % 1000;
        r.heap = new ArrayList<>(List.of(r));
        records.add(r);
        return r.number;
    }

    static int points(int name, int born, int otherName, int otherBorn) {
        int points = -Math.abs(born - otherBorn);
        for (int place = 1; place <= 100000; place *= 10) if (name / place % 10 == otherName / place % 10) points++;
        return points;
    }

    static boolean barred(Record a, Record b) {
        for (int day = 0; day <= 200; day++) if (in(day, a.from, a.to) && in(day, b.from, b.to)) return true;
        return false;
    }

    int alike(int one, int other) {
        Record a = at(records, one), b = at(records, other);
        if (a == null || b == null || a.list == b.list || barred(a, b)) return LEAST;
        return points(a.name, a.born, b.name, b.born);
    }

    int match(int record) {
        int best = NONE;
        for (int i = records.size() - 1; i >= 0; i--) {
            int points = alike(record, i);
            if (points >= 4 && (best == NONE || points >= alike(record, best))) best = i;
        }
        return best;
    }

    int rivals(int record) {
        int match = match(record), many = -1;
        if (match == NONE) return NONE;
        for (int i = 0; i < records.size(); i++) if (alike(record, i) == alike(record, match)) many++;
        return many;
    }

    int join(int one, int other) {
        forgetKin();
        Record a = at(records, one), b = at(records, other);
        if (a == null || b == null || a.heap == b.heap) return NONE;
        for (Record x : a.heap) for (Record y : b.heap) if (x.list == y.list || barred(x, y)) return NONE;
        List<Record> all = new ArrayList<>(a.heap);
        all.addAll(b.heap);
        for (Record x : all) x.heap = all;
        return all.size();
    }

    int part(int record) {
        forgetKin();
        Record a = at(records, record);
        if (a == null) return NONE;
        List<Record> all = a.heap;
        for (Record x : all) x.heap = new ArrayList<>(List.of(x));
        return all.size();
    }

    boolean same(int one, int other) {
        Record a = at(records, one), b = at(records, other);
        return a != null && b != null && a.heap == b.heap;
    }

    boolean seek(int family, int name, int born) {
        forgetKin();
        Family f = at(families, family);
        if (f == null || !in(name, 0, 999999) || !in(born, 0, 120) || seekings.size() == 40) return false;
        Seeking s = new Seeking();
        s.family = f; s.name = name; s.born = born;
        seekings.add(s);
        return true;
    }

    int finds(int family, int other) {
        Family f = at(families, family), g = at(families, other);
        if (f == null || g == null || f == g) return NONE;
        int most = NONE;
        for (Seeking s : seekings) {
            if (s.family != f) continue;
            for (Record of : records) {
                if (of.family != g) continue;
                for (Record r : of.heap) {
                    int points = points(r.name, r.born, s.name, s.born);
                    if (points >= 5) most = Math.max(most, points);
                }
            }
        }
        return most;
    }

    boolean areKin(int one, int other) { return (kin(one) >> other & 1) == 1; }

    // Kept for the time that it takes alone: each call that could change it forgets it.
    Integer[] kinMemo = new Integer[24];

    void forgetKin() { kinMemo = new Integer[24]; }

    int kin(int family) {
        if (at(families, family) == null) return NONE;
        if (kinMemo[family] != null) return kinMemo[family];
        int bits = 0;
        for (int g = 0; g < families.size(); g++) {
            if (finds(family, g) != NONE || finds(g, family) != NONE) bits |= 1 << g;
        }
        kinMemo[family] = bits;
        return bits;
    }

    int mutual(int family) {
        if (at(families, family) == null) return NONE;
        int bits = 0;
        for (int g = 0; g < families.size(); g++) {
            if (finds(family, g) != NONE && finds(g, family) != NONE) bits |= 1 << g;
        }
        return bits;
    }

    int feed(int... numbers) {
        if (text.length() + 20 > 500) return NONE;
        for (int n : numbers) {
            for (int i = 3; i >= 0; i--) text += (char) (n >> 8 * i & 255);
        }
        return text.length();
    }

    boolean end(int n) {
        if (!in(n, 0, text.length())) return false;
        text = text.substring(0, n);
        return true;
    }

    // ---- the grammar, read straight off the text: a Fault breaks off

    @SuppressWarnings("serial")
    static final class Fault extends RuntimeException {
        final int place;
        Fault(int place) { super(null, null, false, false); this.place = place; }
    }

    static final class Reader {
        final String text;
        int at;
        int opened;

        Reader(String text) { this.text = text; }

        void blanks() { while (at < text.length() && " \n".indexOf(text.charAt(at)) >= 0) at++; }

        String token() {
            blanks();
            if (at == text.length()) return "";
            int to = at;
            while (to < text.length() && in(text.charAt(to), 'a', 'z')) to++;
            if (to == at) while (to < text.length() && in(text.charAt(to), '0', '9')) to++;
            if (to == at) to++;
            return text.substring(at, to);
        }

        Fault fault() {
            blanks();
            return new Fault(at);
        }

        boolean take(String wanted) {
            String t = token();
            if (!t.equals(wanted)) return false;
            at += t.length();
            return true;
        }

        void need(String wanted) { if (!take(wanted)) throw fault(); }

        void open(String with) {
            if (opened == 8) throw fault();
            need(with);
            opened++;
        }

        static Node node(String what, Node one, Node two) {
            Node n = new Node();
            n.what = what; n.one = one; n.two = two;
            return n;
        }

        Node[] clauses() {
            Node[] all = new Node[6];
            while (!token().isEmpty()) {
                int c = CLAUSES.indexOf(token());
                if (c < 0 || all[c] != null) throw fault();
                need(CLAUSES.get(c));
                all[c] = c < 4 ? e() : c();
                need(";");
            }
            return all;
        }

        Node e() {
            Node n = t();
            while (token().equals("+") || token().equals("-")) {
                String sign = token();
                need(sign);
                n = node(sign, n, t());
            }
            return n;
        }

        Node t() {
            Node n = f();
            while (token().equals("*") || token().equals("/")) {
                String sign = token();
                need(sign);
                n = node(sign, n, f());
            }
            return n;
        }

        Node f() {
            String t = token();
            if (t.equals("(")) {
                open("(");
                Node n = e();
                need(")");
                opened--;
                return n;
            }
            if (NAMES.contains(t)) {
                need(t);
                return node(t, null, null);
            }
            if (t.isEmpty() || !in(t.charAt(0), '0', '9')) throw fault();
            String digits = t.replaceFirst("^0+", "");
            if (digits.length() > 5) throw fault();
            need(t);
            Node n = node("number", null, null);
            n.number = digits.isEmpty() ? 0 : Integer.parseInt(digits);
            return n;
        }

        Node c() {
            Node n = a();
            while (take("or")) n = node("or", n, a());
            return n;
        }

        Node a() {
            Node n = b();
            while (take("and")) n = node("and", n, b());
            return n;
        }

        Node b() {
            String t = token();
            if (t.equals("not")) {
                open("not");
                Node n = node("not", b(), null);
                opened--;
                return n;
            }
            if (t.equals("[")) {
                open("[");
                Node n = c();
                need("]");
                opened--;
                return n;
            }
            Node one = e();
            String sign = token();
            if (!List.of("<", ">", "=").contains(sign)) throw fault();
            need(sign);
            return node(sign, one, e());
        }
    }

    int fault() {
        try {
            new Reader(text).clauses();
            return NONE;
        } catch (Fault f) {
            return f.place;
        }
    }

    int sheet() {
        if (fault() != NONE || sheets.size() == 10) return NONE;
        Sheet s = new Sheet();
        s.clauses = new Reader(text).clauses();
        s.came = now;
        sheets.add(s);
        text = "";
        return sheets.size() - 1;
    }

    boolean strike(int sheet) {
        Sheet s = at(sheets, sheet);
        if (s == null || s.struck < 1000) return false;
        s.struck = now;
        return true;
    }

    int why(int clause, int day) {
        if (!in(clause, 0, 5) || !in(day, 0, now)) return NONE;
        int found = NONE;
        for (int i = 0; i < sheets.size(); i++) {
            Sheet s = sheets.get(i);
            if (s.came <= day && day < s.struck && s.clauses[clause] != null) found = i;
        }
        return found;
    }

    // ---- asking

    Sheet aside;

    int ask(int clause, Family f, Home h, Town t, int own) {
        Node n = aside == null ? null : aside.clauses[clause];
        if (n == null) {
            int s = why(clause, now);
            if (s == NONE) return clause == 2 ? 30 : clause == 4 ? 1 : 0;
            n = sheets.get(s).clauses[clause];
        }
        return value(n, f, h, t, own);
    }

    int value(Node n, Family f, Home h, Town t, int own) {
        if (n.what.equals("number")) return n.number;
        if (n.one == null) return name(n.what, f, h, t, own);
        long a = value(n.one, f, h, t, own);
        if (n.what.equals("not")) return a == 0 ? 1 : 0;
        long b = value(n.two, f, h, t, own);
        switch (n.what) {
            case "+": return (int) Math.min(1000000, Math.max(-1000000, a + b));
            case "-": return (int) Math.min(1000000, Math.max(-1000000, a - b));
            case "*": return (int) Math.min(1000000, Math.max(-1000000, a * b));
            case "/": return b == 0 ? 0 : (int) (Math.abs(a) / Math.abs(b) * (a < 0 ? -1 : 1) * (b < 0 ? -1 : 1));
            case "<": return a < b ? 1 : 0;
            case ">": return a > b ? 1 : 0;
            case "=": return a == b ? 1 : 0;
            case "and": return a == 1 && b == 1 ? 1 : 0;
            case "or": return a == 1 || b == 1 ? 1 : 0;
            default: throw new IllegalStateException(n.what);
        }
    }

    int name(String what, Family f, Home h, Town t, int own) {
        switch (what) {
            case "all": return families.stream().filter(x -> !x.gone).mapToInt(x -> x.heads).sum();
            case "day": return now;
            case "own": return own;
            default:
        }
        if (f == null) {
            if (what.equals("seats")) return seats(t, null);
            return what.equals("beds") ? rooms(t) : 0;
        }
        switch (what) {
            case "heads": return f.heads;
            case "pupils": return f.pupils;
            case "lame": return f.lame;
            case "tongue": return f.tongue;
            case "trade": return f.trade;
            case "clan": return f.clan;
            case "nights": return f.nights;
            default:
        }
        if (h == null) return 0;
        switch (what) {
            case "wish": return f.wish == h.town ? 1 : 0;
            case "kin": return kinIn(f, h.town);
            case "rooms": return h.rooms;
            case "stairs": return h.stairs;
            case "miles": return f.wish == null ? 0 : Math.abs(f.wish.mile - h.town.mile);
            case "seats": return seats(h.town, f);
            case "wanted": return wants(h.town, f.trade) ? 1 : 0;
            case "beds": return rooms(h.town);
            default: throw new IllegalStateException(what);
        }
    }

    int seats(Town t, Family but) {
        int seats = t.seats;
        for (Family g : families) if (g != but && g.home != null && g.home.town == t) seats -= g.pupils;
        return seats;
    }

    int rooms(Town t) { return homes.stream().filter(h -> h.town == t).mapToInt(h -> h.rooms).sum(); }

    int kinIn(Family f, Town t) {
        int many = 0;
        int bits = kin(f.number);
        for (Family g : families) if ((bits >> g.number & 1) == 1 && g.home != null && g.home.town == t) many++;
        return many;
    }

    static boolean wants(Town t, int trade) { return (t.trades >> trade & 1) == 1; }

    int rank(int family, int what) {
        Family f = at(families, family);
        if (f == null || !in(what, 0, 1)) return LEAST;
        return ask(what == 0 ? 0 : 2, f, null, null, 0);
    }

    int headsIn(Town t) {
        return families.stream().filter(f -> f.home != null && f.home.town == t).mapToInt(f -> f.heads).sum();
    }

    int lack(int town) {
        Town t = at(towns, town);
        return t == null ? LEAST : ask(1, null, null, t, 0) - headsIn(t);
    }

    int bar(int family, int home) {
        Family f = at(families, family);
        Home h = at(homes, home);
        return f == null || h == null || f.gone ? NONE : bar(f, h);
    }

    int bar(Family f, Home h) {
        if (!in(now, h.from, h.till)) return 1;
        for (Family g : families) if (g != f && g.home == h) return 2;
        if (f.heads > h.rooms) return 3;
        if (h.stairs == 1 && f.lame == 1) return 4;
        boolean teaches = (h.town.schools >> f.tongue & 1) == 1;
        if (f.pupils > 0 && (!teaches || seats(h.town, f) < f.pupils)) return 5;
        if (h.kept != 4 && h.kept != f.tongue) return 6;
        if (h.town.full) return 7;
        for (Family g : families) {
            if (g.home == null || g.clan == f.clan) continue;
            int miles = apart[Math.min(f.clan, g.clan)][Math.max(f.clan, g.clan)];
            if (Math.abs(g.home.town.mile - h.town.mile) < miles) return 8;
        }
        return ask(4, f, h, null, 0) == 1 ? 0 : 9;
    }

    boolean inHall(Family f) { return !f.gone && f.home == null; }

    /** Those in the hall are housed by the law: each with those in line ahead of it that weren't is told to whys. */
    List<Family> placed(int[][] whys) {
        List<Family> line = new ArrayList<>();
        for (Family f : families) if (inHall(f)) line.add(f);
        int[] ahead = new int[24];
        for (Family f : line) ahead[f.number] = ask(0, f, null, null, 0);
        line.sort((a, b) -> ahead[a.number] != ahead[b.number] ? Integer.compare(ahead[b.number], ahead[a.number])
                : Integer.compare(a.number, b.number));
        List<Family> placed = new ArrayList<>();
        List<Family> left = new ArrayList<>();
        for (Family f : line) {
            Home best = null;
            int most = 0;
            for (Home h : homes) {
                if (bar(f, h) != 0) continue;
                int worth = 1000 * kinIn(f, h.town) + (f.wish == h.town ? 100 : 0) + lack(towns.indexOf(h.town));
                if (best == null || worth > most) {
                    best = h;
                    most = worth;
                }
            }
            if (best == null) {
                left.add(f);
                continue;
            }
            for (Family g : left) whys[g.number][f.number] = bar(g, best);
            f.home = best;
            placed.add(f);
        }
        return placed;
    }

    int place() {
        whys = new int[families.size()][families.size()];
        for (int[] row : whys) Arrays.fill(row, NONE);
        return placed(whys).size();
    }

    int passed(int family, int other) {
        return in(family, 0, whys.length - 1) && in(other, 0, whys.length - 1) ? whys[family][other] : NONE;
    }

    int move(int family, int home) {
        Family f = at(families, family);
        Home h = at(homes, home);
        if (f == null || f.home == null) return NONE;
        if (home != NONE && (h == null || h == f.home || bar(f, h) != 0)) return NONE;
        int breaks = 0;
        if (f.pupils > 0 && (h == null || h.town != f.home.town)) breaks += 1;
        if (wants(f.home.town, f.trade) && (h == null || !wants(h.town, f.trade))) breaks += 2;
        f.home = h;
        return breaks;
    }

    boolean leave(int family) {
        Family f = at(families, family);
        if (f == null || f.gone) return false;
        f.gone = true;
        f.home = null;
        return true;
    }

    int go(int n) {
        if (!in(n, 0, 40)) return NONE;
        for (int i = 0; i < n && now < 200; i++) endDay();
        return now;
    }

    void endDay() {
        for (Family f : families) if (f.home != null && f.home.till == now) f.home = null;
        for (Family f : families) if (inHall(f)) f.nights++;
        Day d = new Day();
        d.towns = new int[towns.size()];
        d.where = new int[families.size()];
        for (int t = 0; t < towns.size(); t++) {
            for (Family f : families) {
                if (f.home == null || f.home.town != towns.get(t)) continue;
                d.towns[t] += Math.min(1000000, Math.max(0, ask(3, f, f.home, null, 0)));
            }
            towns.get(t).sums += d.towns[t];
            d.sum += d.towns[t];
        }
        for (Family f : families) {
            d.came += f.heads;
            if (f.gone) d.gone += f.heads;
            else if (f.home != null) d.housed += f.heads;
            else d.inHall += f.heads;
            d.where[f.number] = f.gone ? 101 : f.home == null ? 100 : f.home.number;
        }
        days.add(d);
        now++;
    }

    int night(int family, int day) {
        Day d = at(days, day);
        return d == null || !in(family, 0, d.where.length - 1) ? NONE : d.where[family];
    }

    int lead(int home, int day) {
        Day d = at(days, day);
        if (d == null || at(homes, home) == null) return NONE;
        for (int f = 0; f < d.where.length; f++) if (d.where[f] == home) return f;
        return NONE;
    }

    int beyond() {
        int many = 0;
        for (Family f : families) if (inHall(f) && f.nights > ask(2, f, null, null, 0)) many++;
        return many;
    }

    int ends(int family) {
        Family f = at(families, family);
        if (f == null || !inHall(f)) return NONE;
        for (int bar = 0; bar <= 9; bar++) for (Home h : homes) if (bar(f, h) == bar) return h.number;
        return NONE;
    }

    int show(int who, int family, int what) {
        Family f = at(families, family);
        boolean family0 = at(families, who) != null;
        Town t = who < 100 ? null : at(towns, who - 100);
        if (f == null || (!family0 && t == null)) return NONE;
        boolean hosts = t != null && f.home != null && f.home.town == t;
        if (!hosts && ask(5, f, null, null, who == family ? 1 : 0) == 0) return NONE;
        switch (what) {
            case 0: return f.gone ? 2 : f.home != null ? 1 : 0;
            case 1: return f.home == null ? NONE : towns.indexOf(f.home.town);
            case 2: return f.heads;
            case 3: return f.nights;
            default: return NONE;
        }
    }

    int best(int families, int homes, int k) {
        List<Family> asked = new ArrayList<>();
        List<Home> given = new ArrayList<>();
        for (int i = 0; i < 32; i++) {
            if ((families >> i & 1) == 1) asked.add(at(this.families, i));
            if ((homes >> i & 1) == 1) given.add(at(this.homes, i));
        }
        if (asked.contains(null) || given.contains(null) || !in(asked.size(), 1, 6) || !in(given.size(), 1, 6)) return NONE;
        for (Family f : asked) if (f.gone) return NONE;
        if (!in(k, NONE, asked.size() - 1)) return NONE;
        given.add(null);
        List<Home> before = new ArrayList<>();
        for (Family f : asked) before.add(f.home);
        for (Family f : asked) f.home = null;
        int[] score = {-1, 0, 0};
        Home[] way = new Home[asked.size()];
        tryAll(asked, given, 0, score, way);
        for (int i = 0; i < asked.size(); i++) asked.get(i).home = before.get(i);
        return k == NONE ? score[0] : way[k] == null ? NONE : way[k].number;
    }

    void tryAll(List<Family> asked, List<Home> given, int i, int[] score, Home[] way) {
        if (i == asked.size()) {
            int[] s = {0, 0, 0};
            for (Family f : asked) {
                if (f.home == null) continue;
                s[0] += f.heads;
                if (f.wish == f.home.town) s[2]++;
                for (Family g : asked) {
                    if (g.number > f.number && g.home != null && g.home.town == f.home.town && areKin(f.number, g.number)) s[1]++;
                }
            }
            if (Arrays.compare(s, score) > 0) {
                System.arraycopy(s, 0, score, 0, 3);
                for (int j = 0; j < way.length; j++) way[j] = asked.get(j).home;
            }
            return;
        }
        Family f = asked.get(i);
        for (Home h : given) {
            if (h != null && bar(f, h) != 0) continue;
            f.home = h;
            tryAll(asked, given, i + 1, score, way);
            f.home = null;
        }
    }

    int boat(int day, int low, int high) {
        if (!in(day, now, 200) || low < 0 || low > high || high > 200 || boats.size() == 40) return NONE;
        Boat b = new Boat();
        b.day = day; b.low = low; b.high = high;
        boats.add(b);
        return boats.size();
    }

    int foretell(int day, int n) {
        if (!in(day, now, 200) || !in(n, -100, 100) || bedTellings.size() == 40) return NONE;
        bedTellings.add(new int[] {day, n});
        return bedTellings.size();
    }

    int worst(int day, int what) {
        if (!in(day, now, 200) || !in(what, 0, 2)) return NONE;
        int most = 0, first = NONE;
        for (int d = now; d <= day; d++) {
            int heads = count(7), bedsThen = beds;
            for (Boat b : boats) if (in(b.day, now, d)) heads += what == 2 ? b.low : b.high;
            for (int[] b : bedTellings) if (in(b[0], now, d)) bedsThen += b[1];
            int over = heads - Math.max(0, bedsThen);
            most = Math.max(most, over);
            if (over > 0 && first == NONE) first = d;
        }
        return what == 1 ? first : most;
    }

    int beside(int sheet) {
        Sheet s = at(sheets, sheet);
        if (s == null) return NONE;
        aside = s;
        int heads = 0;
        for (Family f : placed(new int[24][24])) {
            heads += f.heads;
        }
        aside = null;
        return heads;
    }

    /** BESIDE does nothing: so it is asked of the state as it was. */
    int besideUndone(int sheet) {
        List<Home> before = new ArrayList<>();
        for (Family f : families) before.add(f.home);
        int heads = beside(sheet);
        for (int i = 0; i < before.size(); i++) families.get(i).home = before.get(i);
        return heads;
    }

    int check(int day, int number, int mask) {
        Day d = at(days, day);
        if (d == null || !in(number, 0, 4)) return NONE;
        int[] five = {d.inHall, d.housed, d.gone, d.came, d.sum};
        five[number] ^= mask;
        if (five[0] + five[1] + five[2] != five[3]) return 1;
        return five[4] != Arrays.stream(d.towns).sum() ? 2 : 0;
    }

    int ended(int day, int number) {
        Day d = at(days, day);
        if (d == null) return NONE;
        switch (number) {
            case 0: return d.inHall;
            case 1: return d.housed;
            case 2: return d.gone;
            case 3: return d.came;
            case 4: return d.sum;
            default: return NONE;
        }
    }

    int told(int family, int what) {
        Family f = at(families, family);
        if (f == null) return NONE;
        switch (what) {
            case 0: return f.gone ? 2 : f.home != null ? 1 : 0;
            case 1: return f.home == null ? NONE : f.home.number;
            case 2: return f.nights;
            case 3: return f.heads;
            case 4: return f.came;
            case 5: return f.wish == null ? NONE : towns.indexOf(f.wish);
            default: return NONE;
        }
    }

    int is(int town, int what) {
        Town t = at(towns, town);
        if (t == null) return NONE;
        switch (what) {
            case 0: return t.mile;
            case 1: return headsIn(t);
            case 2: return seats(t, null);
            case 3: return (int) Math.min(2000000000L, t.sums);
            case 4: return t.full ? 1 : 0;
            case 5: return Math.max(0, lack(town));
            default: return NONE;
        }
    }

    int count(int what) {
        switch (what) {
            case 0: return now;
            case 1: return towns.size();
            case 2: return homes.size();
            case 3: return families.size();
            case 4: return records.size();
            case 5: return sheets.size();
            case 6: return text.length();
            case 7: return families.stream().filter(this::inHall).mapToInt(f -> f.heads).sum();
            case 8: return beds;
            case 9: return Math.max(0, count(7) - beds);
            case 10: return boats.size();
            case 11: return bedTellings.size();
            case 12: return seekings.size();
            default: return NONE;
        }
    }
}
