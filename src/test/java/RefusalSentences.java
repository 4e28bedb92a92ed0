import java.util.ArrayList;
import java.util.List;

/** The sentence of the document that is told of all calls: what is refused changes nothing. */
final class RefusalSentences extends Checked {
    private RefusalSentences() { }

    /** A call that is refused: what it answers, a boolean as 1 or 0. */
    private interface Call { int of(BedOffice x); }

    private static final class Refused {
        final String told;
        final int answer;
        final Call call;

        Refused(String told, int answer, Call call) {
            this.told = told;
            this.answer = answer;
            this.call = call;
        }
    }

    private static int bit(boolean b) { return b ? 1 : 0; }

    // ---- an office in which all can be met

    private static BedOffice lively() {
        BedOffice x = new BedOffice();
        x.town(100, 1509, 5);
        x.town(150, 310, 2);
        x.town(400, 0, 0);
        x.home(0, 304, 200);
        x.home(0, 414, 1);
        x.home(1, 504, 200);
        x.home(1, 203, 2200);
        x.home(2, 904, 4100);
        x.home(0, 204, 200);
        x.beds(3);
        x.family(320, 0);
        x.family(411, 101);
        x.family(500, 12);
        x.family(200, 23);
        x.family(100, 4);
        x.wish(0, 1);
        x.wish(2, 1);
        x.apart(2, 3, 60);
        x.apart(0, 4, 10);
        x.full(2, true);
        x.record(0, 123456, 30, 5, 0);
        x.record(1, 123457, 31, 6010, NONE);
        x.record(1, 123456, 30, 3010, 1);
        x.record(2, 993456, 30, 20030, 1);
        x.record(2, 555555, 30, 20030, 4);
        x.join(0, 1);
        x.join(1, 3);
        x.seek(2, 123457, 31);
        x.seek(0, 555555, 30);
        x.seek(4, 123456, 30);
        law(x, "ahead heads;limit 1;sum heads+rooms;");
        law(x, "share beds*10+all;must heads>0;show own=1;");
        law(x, "limit all;ahead nights+clan;");
        x.place();
        x.boat(1, 2, 4);
        x.boat(9, 3, 5);
        x.foretell(5, -2);
        x.foretell(8, 9);
        x.go(2);
        x.leave(4);
        x.strike(2);
        x.move(2, NONE);
        x.go(1);
        lay(x, "limit 3; x");
        return x;
    }

    /** Where no call but those that ask may still do anything: all that can come has come. */
    private static BedOffice full() {
        BedOffice x = new BedOffice();
        for (int i = 0; i < 8; i++) x.town(i, 1540, 0);
        for (int i = 0; i < 24; i++) x.home(i % 8, 204, 200);
        for (int i = 0; i < 24; i++) x.family(200, 0);
        for (int i = 0; i < 60; i++) x.record(i % 3, 111111 * (i % 9), 50, i, i % 24);
        for (int i = 0; i < 40; i++) x.seek(i % 24, 111111 * (i % 9), 50);
        for (int i = 0; i < 10; i++) {
            x.feed(0x6c696d69, 0x7420616c, 0x6c3b7368, 0x61726520, 0x62656473);
            x.feed(0x3b202020, 0x20202020, 0x20202020, 0x20202020, 0x20202020);
            x.sheet();
        }
        for (int i = 0; i < 40; i++) x.boat(i, 1, 2);
        for (int i = 0; i < 40; i++) x.foretell(i, 1);
        for (int i = 0; i < 25; i++) x.feed(0x20202020, 0x20202020, 0x20202020, 0x20202020, 0x20202020);
        return x;
    }

    // ---- what can be asked of them, in so few calls that an object stays within its 512

    private static List<Integer> state(BedOffice x) {
        List<Integer> all = new ArrayList<>();
        for (int i = 0; i <= 12; i++) all.add(x.count(i));
        for (int f = 0; f < 5; f++) {
            for (int i = 0; i < 6; i++) all.add(x.told(f, i));
            for (int g = 0; g < 5; g++) {
                all.add(x.finds(f, g));
                all.add(x.passed(f, g));
            }
            for (int h = 0; h < 6; h++) all.add(x.bar(f, h));
            for (int day = 0; day < 3; day++) all.add(x.night(f, day));
            all.add(x.rank(f, 0));
            all.add(x.rank(f, 1));
            all.add(x.kin(f));
            all.add(x.mutual(f));
            all.add(x.ends(f));
            all.add(x.show(f, f, 2));
        }
        for (int t = 0; t < 3; t++) {
            for (int i = 0; i < 6; i++) all.add(x.is(t, i));
            all.add(x.lack(t));
        }
        for (int r = 0; r < 5; r++) {
            all.add(x.match(r));
            all.add(x.rivals(r));
            for (int s = 0; s < r; s++) all.add(bit(x.same(r, s)));
        }
        for (int day = 0; day < 3; day++) {
            for (int n = 0; n < 5; n++) all.add(x.ended(day, n));
            for (int c = 0; c < 6; c++) all.add(x.why(c, day + 1));
        }
        for (int i = 0; i < 3; i++) {
            all.add(x.worst(200, i));
            all.add(x.beside(i));
        }
        all.add(x.fault());
        all.add(x.beyond());
        all.add(x.best(15, 45, NONE));
        all.add(x.place());
        return all;
    }

    private static List<Integer> stateOfFull(BedOffice x) {
        List<Integer> all = new ArrayList<>();
        for (int i = 0; i <= 12; i++) all.add(x.count(i));
        for (int t = 0; t <= 8; t++) {
            all.add(x.lack(t));
            all.add(x.is(t, 0));
        }
        for (int f = 0; f <= 24; f++) all.add(x.kin(f));
        all.add(x.rank(0, 1));
        all.add(x.fault());
        for (int i = 0; i < 3; i++) {
            all.add(x.worst(40, i));
            all.add(x.worst(200, i));
        }
        all.add(x.bar(0, 24));
        all.add(x.told(24, 0));
        all.add(x.match(59));
        all.add(bit(x.end(480)));
        all.add(x.place());
        return all;
    }

    private static List<Refused> refusedByLively() {
        List<Refused> all = new ArrayList<>();
        all.add(new Refused("town(1000, 0, 0)", NONE, x -> x.town(1000, 0, 0)));
        all.add(new Refused("town(5, 1600, 0)", NONE, x -> x.town(5, 1600, 0)));
        all.add(new Refused("town(5, 41, 0)", NONE, x -> x.town(5, 41, 0)));
        all.add(new Refused("town(5, 0, 64)", NONE, x -> x.town(5, 0, 64)));
        all.add(new Refused("full(2, true)", 0, x -> bit(x.full(2, true))));
        all.add(new Refused("full(0, false)", 0, x -> bit(x.full(0, false))));
        all.add(new Refused("full(3, true)", 0, x -> bit(x.full(3, true))));
        all.add(new Refused("home(3, 904, 200)", NONE, x -> x.home(3, 904, 200)));
        all.add(new Refused("home(0, 1004, 200)", NONE, x -> x.home(0, 1004, 200)));
        all.add(new Refused("home(0, 905, 200)", NONE, x -> x.home(0, 905, 200)));
        all.add(new Refused("home(0, 924, 200)", NONE, x -> x.home(0, 924, 200)));
        all.add(new Refused("home(0, 904, 5004)", NONE, x -> x.home(0, 904, 5004)));
        all.add(new Refused("home(0, 904, 201)", NONE, x -> x.home(0, 904, 201)));
        all.add(new Refused("beds(201)", 0, x -> bit(x.beds(201))));
        all.add(new Refused("beds(-1)", 0, x -> bit(x.beds(-1))));
        all.add(new Refused("family(1000, 0)", NONE, x -> x.family(1000, 0)));
        all.add(new Refused("family(560, 0)", NONE, x -> x.family(560, 0)));
        all.add(new Refused("family(502, 0)", NONE, x -> x.family(502, 0)));
        all.add(new Refused("family(500, 400)", NONE, x -> x.family(500, 400)));
        all.add(new Refused("family(500, 60)", NONE, x -> x.family(500, 60)));
        all.add(new Refused("family(500, 6)", NONE, x -> x.family(500, 6)));
        all.add(new Refused("wish(0, 3)", 0, x -> bit(x.wish(0, 3))));
        all.add(new Refused("wish(0, -2)", 0, x -> bit(x.wish(0, -2))));
        all.add(new Refused("wish(5, 0)", 0, x -> bit(x.wish(5, 0))));
        all.add(new Refused("wish(4, 0), gone", 0, x -> bit(x.wish(4, 0))));
        all.add(new Refused("apart(2, 3, 201)", 0, x -> bit(x.apart(2, 3, 201))));
        all.add(new Refused("apart(2, 3, -1)", 0, x -> bit(x.apart(2, 3, -1))));
        all.add(new Refused("apart(2, 2, 200)", 0, x -> bit(x.apart(2, 2, 200))));
        all.add(new Refused("apart(2, 6, 200)", 0, x -> bit(x.apart(2, 6, 200))));
        all.add(new Refused("record(3, ..)", NONE, x -> x.record(3, 555555, 30, 0, 3)));
        all.add(new Refused("record(0, 1000000, ..)", NONE, x -> x.record(0, 1000000, 30, 0, 3)));
        all.add(new Refused("record(0, 555555, 121, ..)", NONE, x -> x.record(0, 555555, 121, 0, 3)));
        all.add(new Refused("record(0, 555555, 30, 2001, 3)", NONE, x -> x.record(0, 555555, 30, 2001, 3)));
        all.add(new Refused("record(0, 555555, 30, 0, 5)", NONE, x -> x.record(0, 555555, 30, 0, 5)));
        all.add(new Refused("join(0, 3), one heap", NONE, x -> x.join(0, 3)));
        all.add(new Refused("join(0, 2), one list", NONE, x -> x.join(0, 2)));
        all.add(new Refused("join(3, 4), one list", NONE, x -> x.join(3, 4)));
        all.add(new Refused("join(4, 5)", NONE, x -> x.join(4, 5)));
        all.add(new Refused("part(5)", NONE, x -> x.part(5)));
        all.add(new Refused("part(-1)", NONE, x -> x.part(-1)));
        all.add(new Refused("seek(5, 1, 1)", 0, x -> bit(x.seek(5, 1, 1))));
        all.add(new Refused("seek(3, 1555555, 30)", 0, x -> bit(x.seek(3, 1555555, 30))));
        all.add(new Refused("seek(3, 555555, 121)", 0, x -> bit(x.seek(3, 555555, 121))));
        all.add(new Refused("end(11)", 0, x -> bit(x.end(11))));
        all.add(new Refused("end(-1)", 0, x -> bit(x.end(-1))));
        all.add(new Refused("sheet()", NONE, BedOffice::sheet));
        all.add(new Refused("strike(2), struck", 0, x -> bit(x.strike(2))));
        all.add(new Refused("strike(3)", 0, x -> bit(x.strike(3))));
        all.add(new Refused("move(2, 0), in the hall", NONE, x -> x.move(2, 0)));
        all.add(new Refused("move(2, NONE), in the hall", NONE, x -> x.move(2, NONE)));
        all.add(new Refused("move(4, 5), gone", NONE, x -> x.move(4, 5)));
        all.add(new Refused("move(5, 0)", NONE, x -> x.move(5, 0)));
        all.add(new Refused("move(1, 0), heads above rooms", NONE, x -> x.move(1, 0)));
        all.add(new Refused("move(1, 4), ahead of its days", NONE, x -> x.move(1, 4)));
        all.add(new Refused("move(1, 2), its own home", NONE, x -> x.move(1, 2)));
        all.add(new Refused("move(1, 6)", NONE, x -> x.move(1, 6)));
        all.add(new Refused("move(1, -2)", NONE, x -> x.move(1, -2)));
        all.add(new Refused("leave(4), gone", 0, x -> bit(x.leave(4))));
        all.add(new Refused("leave(5)", 0, x -> bit(x.leave(5))));
        all.add(new Refused("go(41)", NONE, x -> x.go(41)));
        all.add(new Refused("go(-1)", NONE, x -> x.go(-1)));
        all.add(new Refused("boat(2, 0, 9), a day that ended", NONE, x -> x.boat(2, 0, 9)));
        all.add(new Refused("boat(5, 9, 8)", NONE, x -> x.boat(5, 9, 8)));
        all.add(new Refused("boat(5, 9, 201)", NONE, x -> x.boat(5, 9, 201)));
        all.add(new Refused("boat(201, 9, 9)", NONE, x -> x.boat(201, 9, 9)));
        all.add(new Refused("foretell(2, 9), a day that ended", NONE, x -> x.foretell(2, 9)));
        all.add(new Refused("foretell(5, 101)", NONE, x -> x.foretell(5, 101)));
        all.add(new Refused("foretell(5, -101)", NONE, x -> x.foretell(5, -101)));
        all.add(new Refused("best(16, 1, 0), gone", NONE, x -> x.best(16, 1, 0)));
        all.add(new Refused("best(3, 64, 0)", NONE, x -> x.best(3, 64, 0)));
        all.add(new Refused("best(3, 7, 2)", NONE, x -> x.best(3, 7, 2)));
        all.add(new Refused("beside(3)", NONE, x -> x.beside(3)));
        all.add(new Refused("check(3, 0, 1)", NONE, x -> x.check(3, 0, 1)));
        return all;
    }

    private static List<Refused> refusedByFull() {
        List<Refused> all = new ArrayList<>();
        all.add(new Refused("town(9, 1540, 63)", NONE, x -> x.town(9, 1540, 63)));
        all.add(new Refused("home(0, 904, 200)", NONE, x -> x.home(0, 904, 200)));
        all.add(new Refused("family(900, 0)", NONE, x -> x.family(900, 0)));
        all.add(new Refused("record(0, 0, 50, 0, 1)", NONE, x -> x.record(0, 0, 50, 0, 1)));
        all.add(new Refused("seek(5, 0, 50)", 0, x -> bit(x.seek(5, 0, 50))));
        all.add(new Refused("feed(..)", NONE, x -> x.feed(0x21212121, 0x21212121, 0x21212121, 0x21212121, 0x21212121)));
        all.add(new Refused("sheet()", NONE, BedOffice::sheet));
        all.add(new Refused("boat(30, 100, 100)", NONE, x -> x.boat(30, 100, 100)));
        all.add(new Refused("foretell(30, 100)", NONE, x -> x.foretell(30, 100)));
        return all;
    }

    @Sentence("What is refused changes nothing.")
    static void nothingIsChanged() {
        List<Integer> state = state(lively());
        for (Refused refused : refusedByLively()) {
            BedOffice x = lively();
            due(refused.told, refused.answer, refused.call.of(x));
            due("all as it was behind " + refused.told, true, state.equals(state(x)));
        }
        List<Integer> stateOfFull = stateOfFull(full());
        for (Refused refused : refusedByFull()) {
            BedOffice x = full();
            due("all came: " + refused.told, refused.answer, refused.call.of(x));
            due("all as it was behind " + refused.told, true, stateOfFull.equals(stateOfFull(x)));
        }
    }
}
