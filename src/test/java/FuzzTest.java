import java.util.ArrayList;
import java.util.List;
import java.util.Random;

/** Runs of calls drawn by fixed seeds: each answer of BedOffice is held against the Model's. */
public final class FuzzTest {
    private static final int CALLS = 512;
    private static final int[] FAR = {Integer.MIN_VALUE, Integer.MAX_VALUE, -1, -2, -1000, 99999, 100000, 1000000, 1 << 30};

    private final Random random;
    private final Model model = new Model();
    private final BedOffice office = new BedOffice();
    private final List<String> log = new ArrayList<>();
    private final int strange;
    private final int[] weights = new int[OPS];
    private final int[] names = new int[4];
    private final int theme;
    private boolean failed;

    private static final int OPS = 46;

    private FuzzTest(long seed) {
        random = new Random(seed);
        strange = new int[] {3, 12, 12, 200, 200, 200, 200, 200}[random.nextInt(8)];
        for (int i = 0; i < OPS; i++) weights[i] = 1 + random.nextInt(6);
        for (int i = 0; i < names.length; i++) names[i] = random.nextInt(1000000);
        // Some runs stand in few themes, so that these get deep.
        theme = random.nextInt(6);
        if (theme == 1) for (int i : new int[] {6, 7, 8, 9, 10, 11, 12, 13, 14, 15, 16}) weights[i] += 20;
        if (theme == 2) for (int i : new int[] {17, 18, 19, 20, 21, 22}) weights[i] += 25;
        if (theme == 3) for (int i : new int[] {25, 26, 27, 28, 29, 35, 39}) weights[i] += 15;
        if (theme == 4) for (int i : new int[] {36, 37, 38, 40, 41}) weights[i] += 15;
        if (theme == 5) for (int i : new int[] {0, 1, 2, 4, 27}) weights[i] += 10;
        weights[30] = 1 + random.nextInt(4);
        weights[29] = 1;
    }

    public static void main(String[] args) {
        int runs = args.length > 0 ? Integer.parseInt(args[0]) : 1500;
        long first = args.length > 1 ? Long.parseLong(args[1]) : 1;
        int passed = 0, failed = 0;
        for (long seed = first; seed < first + runs; seed++) {
            if (new FuzzTest(seed).run()) {
                passed++;
            } else {
                failed++;
                System.out.println("  seed " + seed);
                if (failed >= 5) break;
            }
        }
        System.out.println("FuzzTest: " + passed + " runs as the model, " + failed + " not");
        if (failed != 0) System.exit(1);
    }

    private boolean run() {
        setUp();
        int all = 0;
        for (int w : weights) all += w;
        while (log.size() < CALLS && !failed) {
            int pick = random.nextInt(all);
            int op = 0;
            while (pick >= weights[op]) pick -= weights[op++];
            call(op);
        }
        if (!failed) look();
        return !failed;
    }

    /** Most runs begin with some towns, homes and families: else little could happen. */
    private void setUp() {
        if (random.nextInt(10) == 0) return;
        int towns = 1 + random.nextInt(5), homes = random.nextInt(14), families = random.nextInt(14);
        for (int i = 0; i < towns; i++) call(0);
        for (int i = 0; i < homes; i++) call(2);
        for (int i = 0; i < families; i++) call(4);
        if (random.nextBoolean()) call(21);
        if (theme == 3) dense();
    }

    /** Few towns, many wishes and many kin: so that what is best hangs on more than heads. */
    private void dense() {
        for (int i = 0; i < 12; i++) {
            call(5);
            call(5);
            call(7);
            call(14);
            call(14);
        }
    }

    private void due(String call, long want, long got) {
        log.add(call + " = " + got);
        if (want == got) return;
        failed = true;
        for (String line : log) System.out.println("    " + line);
        System.out.println("  due is " + want);
    }

    private void due(String call, boolean want, boolean got) { due(call, want ? 1 : 0, got ? 1 : 0); }

    private static String told(String name, int... numbers) {
        StringBuilder call = new StringBuilder(name).append('(');
        for (int i = 0; i < numbers.length; i++) call.append(i == 0 ? "" : ", ").append(numbers[i]);
        return call.append(')').toString();
    }

    private int any(int low, int high) {
        if (random.nextInt(strange) == 0) {
            return random.nextBoolean() ? FAR[random.nextInt(FAR.length)] : high + 1 + random.nextInt(3);
        }
        return low + random.nextInt(high - low + 1);
    }

    private int some(int size) { return any(0, Math.max(0, size - 1)); }
    private int town() { return some(model.towns.size()); }
    private int home() { return some(model.homes.size()); }
    private int family() { return some(model.families.size()); }
    private int record() { return some(model.records.size()); }
    private int none(int n) { return random.nextInt(4) == 0 ? -1 : n; }
    private int pastDay() { return some(Math.max(1, model.now)); }
    private int day() { return random.nextInt(3) == 0 ? any(0, 200) : Math.min(200, model.now + random.nextInt(12)); }

    private int name() {
        int name = names[random.nextInt(names.length)];
        for (int i = random.nextInt(3); i > 0; i--) {
            int place = new int[] {1, 10, 100, 1000, 10000, 100000}[random.nextInt(6)];
            name += (random.nextInt(10) - name / place % 10) * place;
        }
        return random.nextInt(strange) == 0 ? any(0, 999999) : name;
    }

    private int born() { return random.nextInt(10) == 0 ? any(0, 120) : 30 + random.nextInt(3); }

    private int seen() {
        int from = random.nextInt(12) == 0 ? any(0, 200) : random.nextInt(150);
        int to = random.nextInt(12) == 0 ? any(0, 200) : Math.min(200, from + random.nextInt(12));
        return from * 1000 + to;
    }

    private int homeDays() {
        int from = random.nextInt(3) > 0 ? 0 : Math.min(200, model.now + random.nextInt(6));
        int till = random.nextInt(2) > 0 ? 200 : Math.min(200, model.now + random.nextInt(20));
        return random.nextInt(strange) == 0 ? any(0, 200200) : from * 1000 + till;
    }

    private int bits(int size) {
        int bits = 0;
        for (int i = 1 + random.nextInt(6); i > 0 && size > 0; i--) bits |= 1 << random.nextInt(size);
        if (random.nextInt(40) == 0) bits |= 1 << random.nextInt(32);
        return random.nextInt(strange) == 0 ? random.nextInt() : bits;
    }

    private void call(int op) {
        if (failed) return;
        switch (op) {
            case 0: {
                int mile = random.nextBoolean() ? any(0, 999) : any(0, 5) * 20;
                int schools = random.nextBoolean() ? 15 : any(0, 15);
                int seats = random.nextBoolean() ? any(0, 40) : random.nextInt(9);
                int what = schools * 100 + seats, trades = any(0, 63);
                due(told("town", mile, what, trades), model.town(mile, what, trades), office.town(mile, what, trades));
                break;
            }
            case 1: {
                int t = town();
                boolean full = random.nextInt(4) == 0;
                due("full(" + t + ", " + full + ")", model.full(t, full), office.full(t, full));
                break;
            }
            case 2: {
                int t = town(), days = homeDays();
                int what = any(1, 9) * 100 + (random.nextInt(3) == 0 ? 10 : 0) + (random.nextInt(3) == 0 ? any(0, 4) : 4);
                due(told("home", t, what, days), model.home(t, what, days), office.home(t, what, days));
                break;
            }
            case 3: {
                int n = any(0, 200);
                due(told("beds", n), model.beds(n), office.beds(n));
                break;
            }
            case 4: {
                int heads = random.nextInt(3) == 0 ? any(1, 9) : 1 + random.nextInt(5);
                int pupils = random.nextBoolean() ? 0 : random.nextInt(Math.max(1, Math.min(heads, 9) + 1));
                int what = heads * 100 + (random.nextInt(20) == 0 ? any(0, 9) : pupils) * 10 + (random.nextInt(4) == 0 ? 1 : 0);
                int kind = any(0, 3) * 100 + any(0, 5) * 10 + any(0, 5);
                due(told("family", what, kind), model.family(what, kind), office.family(what, kind));
                break;
            }
            case 5: {
                int f = family(), t = none(town());
                due(told("wish", f, t), model.wish(f, t), office.wish(f, t));
                break;
            }
            case 6: {
                int a = any(0, 5), b = any(0, 5), miles = random.nextInt(3) == 0 ? 0 : any(0, 200);
                due(told("apart", a, b, miles), model.apart(a, b, miles), office.apart(a, b, miles));
                break;
            }
            case 7: case 8: {
                int list = any(0, 2), name = name(), born = born(), seen = seen(), f = none(family());
                due(told("record", list, name, born, seen, f), model.record(list, name, born, seen, f),
                        office.record(list, name, born, seen, f));
                break;
            }
            case 9: {
                int a = record(), b = record();
                due(told("alike", a, b), model.alike(a, b), office.alike(a, b));
                break;
            }
            case 10: {
                int a = record();
                due(told("match", a), model.match(a), office.match(a));
                due(told("rivals", a), model.rivals(a), office.rivals(a));
                break;
            }
            case 11: {
                int a = record(), b = random.nextBoolean() ? model.match(a) : record();
                due(told("join", a, b), model.join(a, b), office.join(a, b));
                break;
            }
            case 12: {
                int a = record();
                if (random.nextInt(3) == 0) due(told("part", a), model.part(a), office.part(a));
                break;
            }
            case 13: {
                int a = record(), b = record();
                due(told("same", a, b), model.same(a, b), office.same(a, b));
                break;
            }
            case 14: {
                int f = family(), name = name(), born = born();
                due(told("seek", f, name, born), model.seek(f, name, born), office.seek(f, name, born));
                break;
            }
            case 15: {
                int f = family(), g = family();
                due(told("finds", f, g), model.finds(f, g), office.finds(f, g));
                break;
            }
            case 16: {
                int f = family();
                due(told("kin", f), model.kin(f), office.kin(f));
                due(told("mutual", f), model.mutual(f), office.mutual(f));
                break;
            }
            case 17: {
                int n = any(0, Math.max(1, model.text.length()));
                due(told("end", n), model.end(n), office.end(n));
                break;
            }
            case 18: {
                due("fault()", model.fault(), office.fault());
                break;
            }
            case 19: {
                int[] n = new int[5];
                for (int i = 0; i < 5; i++) n[i] = random.nextInt();
                feed(n);
                break;
            }
            case 20: case 21: {
                feedText(new Texts(random).text(random.nextInt(3) == 0));
                break;
            }
            case 22: {
                feedText(new Texts(random).text(false));
                break;
            }
            default: callMore(op);
        }
    }

    private void callMore(int op) {
        switch (op) {
            case 23: {
                int s = some(model.sheets.size());
                if (random.nextInt(3) == 0) due(told("strike", s), model.strike(s), office.strike(s));
                break;
            }
            case 24: {
                int c = any(0, 5), d = some(model.now + 1);
                due(told("why", c, d), model.why(c, d), office.why(c, d));
                break;
            }
            case 25: {
                int f = family(), what = any(0, 1);
                due(told("rank", f, what), model.rank(f, what), office.rank(f, what));
                int t = town();
                due(told("lack", t), model.lack(t), office.lack(t));
                break;
            }
            case 26: {
                int f = family(), h = home();
                due(told("bar", f, h), model.bar(f, h), office.bar(f, h));
                break;
            }
            case 27: {
                due("place()", model.place(), office.place());
                break;
            }
            case 28: {
                for (int i = 0; i < 3 && !failed; i++) {
                    int f = family(), g = family();
                    due(told("passed", f, g), model.passed(f, g), office.passed(f, g));
                }
                break;
            }
            case 29: {
                int f = family();
                due(told("leave", f), model.leave(f), office.leave(f));
                break;
            }
            case 30: {
                int n = random.nextInt(8) == 0 ? any(0, 40) : random.nextInt(4);
                due(told("go", n), model.go(n), office.go(n));
                break;
            }
            case 31: {
                int f = family(), d = pastDay();
                due(told("night", f, d), model.night(f, d), office.night(f, d));
                break;
            }
            case 32: {
                int h = home(), d = pastDay();
                due(told("lead", h, d), model.lead(h, d), office.lead(h, d));
                break;
            }
            case 33: {
                due("beyond()", model.beyond(), office.beyond());
                int f = family();
                due(told("ends", f), model.ends(f), office.ends(f));
                break;
            }
            case 34: {
                int who = random.nextBoolean() ? family() : 100 + town(), f = family(), what = any(0, 3);
                due(told("show", who, f, what), model.show(who, f, what), office.show(who, f, what));
                break;
            }
            case 35: {
                int f = bits(model.families.size()), h = bits(model.homes.size());
                for (int k = -1; k < 3; k++) {
                    if (!failed) due(told("best", f, h, k), model.best(f, h, k), office.best(f, h, k));
                }
                break;
            }
            case 36: {
                int d = day(), low = any(0, 30), high = any(0, 60);
                due(told("boat", d, low, high), model.boat(d, low, high), office.boat(d, low, high));
                break;
            }
            case 37: {
                int d = day(), n = any(-100, 100);
                due(told("foretell", d, n), model.foretell(d, n), office.foretell(d, n));
                break;
            }
            case 38: {
                int d = day(), what = any(0, 2);
                due(told("worst", d, what), model.worst(d, what), office.worst(d, what));
                break;
            }
            case 39: {
                int s = some(model.sheets.size());
                due(told("beside", s), model.besideUndone(s), office.beside(s));
                break;
            }
            case 40: {
                int d = pastDay(), n = any(0, 4), mask = random.nextBoolean() ? 0 : random.nextInt();
                due(told("check", d, n, mask), model.check(d, n, mask), office.check(d, n, mask));
                due(told("ended", d, n), model.ended(d, n), office.ended(d, n));
                break;
            }
            case 41: {
                int f = family(), what = any(0, 5);
                due(told("told", f, what), model.told(f, what), office.told(f, what));
                break;
            }
            case 42: {
                int t = town(), what = any(0, 5);
                due(told("is", t, what), model.is(t, what), office.is(t, what));
                break;
            }
            case 43: {
                int what = any(0, 12);
                due(told("count", what), model.count(what), office.count(what));
                break;
            }
            default: {
                int f = family(), h = none(home());
                due(told("move", f, h), model.move(f, h), office.move(f, h));
            }
        }
    }

    private void feed(int[] n) {
        due(told("feed", n), model.feed(n), office.feed(n[0], n[1], n[2], n[3], n[4]));
    }

    private void feedText(String text) {
        if (random.nextInt(4) > 0) due("end(0)", model.end(0), office.end(0));
        int length = model.text.length() + text.length();
        StringBuilder padded = new StringBuilder(text);
        while (padded.length() % 20 != 0) padded.append(' ');
        for (int at = 0; at < padded.length() && !failed; at += 20) {
            int[] n = new int[5];
            for (int i = 0; i < 20; i++) n[i / 4] = n[i / 4] << 8 | padded.charAt(at + i);
            feed(n);
        }
        if (!failed) due(told("end", length), model.end(length), office.end(length));
        if (!failed) due("fault()", model.fault(), office.fault());
        if (!failed && random.nextInt(5) > 0) due("sheet()", model.sheet(), office.sheet());
    }

    /** All that can be asked without doing anything, at the end of a run. */
    private void look() {
        for (int i = 0; i <= 12; i++) due(told("count", i), model.count(i), office.count(i));
        for (int f = 0; f < model.families.size() && !failed; f++) {
            for (int i = 0; i <= 5; i++) due(told("told", f, i), model.told(f, i), office.told(f, i));
            for (int h = 0; h < model.homes.size(); h++) due(told("bar", f, h), model.bar(f, h), office.bar(f, h));
            for (int g = 0; g < model.families.size(); g++) {
                due(told("passed", f, g), model.passed(f, g), office.passed(f, g));
                due(told("finds", f, g), model.finds(f, g), office.finds(f, g));
            }
            for (int d = 0; d < model.now; d++) due(told("night", f, d), model.night(f, d), office.night(f, d));
            for (int i = 0; i < 4; i++) due(told("show", 0, f, i), model.show(0, f, i), office.show(0, f, i));
            due(told("kin", f), model.kin(f), office.kin(f));
            due(told("rank", f, 0), model.rank(f, 0), office.rank(f, 0));
            due(told("rank", f, 1), model.rank(f, 1), office.rank(f, 1));
            due(told("ends", f), model.ends(f), office.ends(f));
        }
        for (int t = 0; t < model.towns.size() && !failed; t++) {
            for (int i = 0; i <= 5; i++) due(told("is", t, i), model.is(t, i), office.is(t, i));
        }
        for (int d = 0; d < model.now && !failed; d++) {
            for (int i = 0; i <= 4; i++) due(told("ended", d, i), model.ended(d, i), office.ended(d, i));
        }
    }
}
