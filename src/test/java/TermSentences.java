/** Sentences of the document's terms, parts 1 and 2: towns, homes, families; records, and who seeks whom. */
final class TermSentences extends Checked {
    private TermSentences() { }

    // ---- what may come, and how much of it

    @Sentence("An object is used for at most 512 calls after it has been made")
    static void its512thCall() {
        BedOffice x = new BedOffice();
        x.town(0, 0, 0);
        x.home(0, 104, 200);
        x.family(100, 0);
        for (int i = 0; i < 254; i++) {
            due("call " + (4 + 2 * i) + ", place()", 1, x.place());
            due("call " + (5 + 2 * i) + ", move(0, NONE)", 0, x.move(0, NONE));
        }
        due("call 512, place()", 1, x.place());
        BedOffice y = new BedOffice();
        for (int i = 0; i < 511; i++) y.feed(0x61686561, 0x64203132, 0x333b2020, 0x20202020, 0x0a202020);
        due("call 512, fault()", 20, y.fault());
    }

    @Sentence("DAYS are 0 .. 200; NOW is one (0 at first; 200 doesn't end).")
    static void days() {
        BedOffice x = new BedOffice();
        x.town(0, 0, 0);
        due("a home till 200", 0, x.home(0, 104, 200200));
        due("a home till 201", NONE, x.home(0, 104, 201));
        x.family(100, 0);
        due("NOW at first", 0, x.count(0));
        due("0 hasn't ended", NONE, x.ended(0, 3));
        x.go(1);
        due("0 has ended", 1, x.ended(0, 3));
        go(x, 199);
        due("NOW", 200, x.count(0));
        due("199 has ended", 1, x.ended(199, 3));
        due("from 200 on", 0, x.bar(0, 0));
        due("go(40)", 200, x.go(40));
        due("NOW", 200, x.count(0));
        due("200 hasn't ended", NONE, x.ended(200, 3));
        due("no more nights", 200, x.told(0, 2));
    }

    @Sentence("TOWNS have numbers as they come, at most 8")
    static void towns() {
        BedOffice x = new BedOffice();
        for (int i = 0; i < 8; i++) due("town " + i, i, x.town(i * 10, 0, 0));
        due("a ninth", NONE, x.town(80, 0, 0));
        due("count(1)", 8, x.count(1));
        for (int i = 0; i < 8; i++) due("is(" + i + ", 0)", i * 10, x.is(i, 0));
        due("is(8, 0)", NONE, x.is(8, 0));
        x.home(7, 104, 200);
        x.family(100, 0);
        x.place();
        law(x, "sum 5;");
        due("a day of 8 towns", 1, x.go(1));
        due("of the last one", 5, x.is(7, 3));
        due("of all", 5, x.ended(0, 4));
    }

    @Sentence("a MILE (0 .. 999) on one road")
    static void mile() {
        BedOffice x = new BedOffice();
        due("mile -1", NONE, x.town(-1, 0, 0));
        due("mile 1000", NONE, x.town(1000, 0, 0));
        for (int n : FAR) due("mile " + n, NONE, x.town(n, 0, 0));
        due("mile 0", 0, x.town(0, 0, 0));
        due("mile 999", 1, x.town(999, 0, 0));
        due("is(0, 0)", 0, x.is(0, 0));
        due("is(1, 0)", 999, x.is(1, 0));
        x.home(0, 104, 200);
        x.home(1, 104, 200);
        x.family(100, 0);
        x.wish(0, 1);
        law(x, "must miles=999;");
        due("from 0 to 999", 0, x.bar(0, 0));
        due("from 999 to 999", 9, x.bar(0, 1));
        x.wish(0, 0);
        due("from 999 to 0", 0, x.bar(0, 1));
    }

    @Sentence("SCHOOLS (bits of TONGUES 0 .. 3 in which it teaches)")
    static void schools() {
        for (int schools = 0; schools <= 15; schools++) {
            BedOffice x = new BedOffice();
            due("schools " + schools, 0, x.town(0, schools * 100 + 40, 0));
            x.home(0, 904, 200);
            for (int tongue = 0; tongue <= 3; tongue++) {
                x.family(110, tongue * 100);
                due("schools " + schools + ", tongue " + tongue, (schools >> tongue & 1) == 1 ? 0 : 5, x.bar(tongue, 0));
            }
        }
        for (int schools = 16; schools <= 99; schools++) due("schools " + schools, NONE, new BedOffice().town(0, schools * 100, 0));
        due("below 0", NONE, new BedOffice().town(0, -100, 0));
    }

    @Sentence("SEATS (0 .. 40) there")
    static void seats() {
        for (int what = -150; what <= 1750; what++) {
            boolean can = what >= 0 && what / 100 <= 15 && what % 100 <= 40;
            BedOffice x = new BedOffice();
            due("town(0, " + what + ", 0)", can ? 0 : NONE, x.town(0, what, 0));
            if (can) due("seats of " + what, what % 100, x.is(0, 2));
        }
        BedOffice x = new BedOffice();
        x.town(0, 1500, 0);
        x.home(0, 904, 200);
        x.family(110, 0);
        x.family(100, 0);
        due("no seat for a pupil", 5, x.bar(0, 0));
        due("no pupil, no seat", 0, x.bar(1, 0));
    }

    @Sentence("TRADES (bits of 0 .. 5) that it wants")
    static void trades() {
        for (int trades = 0; trades <= 63; trades++) {
            BedOffice x = new BedOffice();
            due("trades " + trades, 0, x.town(0, 0, trades));
            for (int trade = 0; trade <= 5; trade++) {
                x.home(0, 104, 200);
                x.family(100, trade * 10);
                x.place();
                due("trades " + trades + ", trade " + trade, (trades >> trade & 1) == 1 ? 2 : 0, x.move(trade, NONE));
                x.leave(trade);
            }
        }
        for (int n : FAR) due("trades " + n, NONE, new BedOffice().town(0, 0, n));
        due("trades 64", NONE, new BedOffice().town(0, 0, 64));
        due("trades -1", NONE, new BedOffice().town(0, 0, -1));
    }

    @Sentence("it may say that it is FULL, and take that back")
    static void fullTowns() {
        BedOffice x = new BedOffice();
        x.town(0, 0, 0);
        x.home(0, 104, 200);
        x.family(100, 0);
        due("not full at first", 0, x.is(0, 4));
        due("bar", 0, x.bar(0, 0));
        due("full", true, x.full(0, true));
        due("is(0, 4)", 1, x.is(0, 4));
        due("bar", 7, x.bar(0, 0));
        due("taken back", true, x.full(0, false));
        due("is(0, 4)", 0, x.is(0, 4));
        due("bar", 0, x.bar(0, 0));
    }

    @Sentence("HOMES have numbers as they come, at most 24")
    static void homes() {
        BedOffice x = new BedOffice();
        x.town(0, 0, 0);
        for (int i = 0; i < 24; i++) due("home " + i, i, x.home(0, 104, 200));
        due("a 25th", NONE, x.home(0, 904, 200));
        due("count(2)", 24, x.count(2));
        x.family(100, 0);
        law(x, "share beds;");
        due("rooms of 24", 24, x.lack(0));
        BedOffice y = new BedOffice();
        y.town(0, 0, 0);
        int rooms = 0;
        for (int i = 0; i < 24; i++) {
            int what = i % 9 * 100 + 100 + i % 2 * 10 + i % 5;
            due("home of " + what, i, y.home(0, what, 200));
            rooms += what / 100;
        }
        law(y, "share beds;");
        due("rooms of others", rooms, y.lack(0));
        due("the last one", 0, x.bar(0, 23));
        due("none such", NONE, x.bar(0, 24));
    }

    private static boolean canBeHome(int what) {
        return what >= 0 && what / 100 >= 1 && what / 100 <= 9 && what / 10 % 10 <= 1 && what % 10 <= 4;
    }

    @Sentence("a TOWN, ROOMS (1 .. 9), STAIRS or none")
    static void rooms() {
        for (int what = -1050; what <= 1150; what++) {
            BedOffice x = new BedOffice();
            x.town(0, 1540, 0);
            due("home(0, " + what + ", 200)", canBeHome(what) ? 0 : NONE, x.home(0, what, 200));
            if (!canBeHome(what) || what % 10 != 4) continue;
            x.family(what / 100 * 100, 0);
            x.family(what / 100 * 100 + 1, 0);
            due("as many heads as rooms " + what, 0, x.bar(0, 0));
            due("stairs of " + what, what / 10 % 10 == 1 ? 4 : 0, x.bar(1, 0));
            if (what >= 900) continue;
            x.family(what / 100 * 100 + 100, 0);
            due("a head more than rooms " + what, 3, x.bar(2, 0));
        }
    }

    @Sentence("from a DAY till a DAY (both as told)")
    static void homeDays() {
        BedOffice x = new BedOffice();
        x.town(0, 0, 0);
        x.home(0, 104, 3005);
        x.home(0, 104, 4004);
        x.home(0, 104, 0);
        x.home(0, 104, 200);
        x.family(100, 0);
        int[][] bars = {{1, 1, 1, 0, 0, 0, 1}, {1, 1, 1, 1, 0, 1, 1}, {0, 1, 1, 1, 1, 1, 1}, {0, 0, 0, 0, 0, 0, 0}};
        for (int day = 0; day < 7; day++) {
            for (int h = 0; h < 4; h++) due("day " + day + ", bar(0, " + h + ")", bars[h][day], x.bar(0, h));
            x.go(1);
        }
    }

    @Sentence("KEPT for a TONGUE, or for none")
    static void kept() {
        for (int kept = 0; kept <= 4; kept++) {
            BedOffice x = new BedOffice();
            x.town(0, 0, 0);
            x.home(0, 100 + kept, 200);
            for (int tongue = 0; tongue <= 3; tongue++) {
                x.family(100, tongue * 100);
                due("kept " + kept + ", tongue " + tongue, kept == 4 || kept == tongue ? 0 : 6, x.bar(tongue, 0));
            }
            for (int n = 5; n <= 9; n++) due("kept " + n, NONE, x.home(0, 100 + n, 200));
        }
    }

    @Sentence("THE HALL has BEDS (0 .. 200; 0 at first)")
    static void hallBeds() {
        BedOffice x = new BedOffice();
        due("at first", 0, x.count(8));
        due("beds(-1)", false, x.beds(-1));
        due("beds(201)", false, x.beds(201));
        due("beds(200)", true, x.beds(200));
        due("count(8)", 200, x.count(8));
        due("beds(201)", false, x.beds(201));
        due("as they were", 200, x.count(8));
        due("beds(0)", true, x.beds(0));
        due("count(8)", 0, x.count(8));
    }

    @Sentence("FAMILIES have numbers as they come, at most 24")
    static void families() {
        BedOffice x = new BedOffice();
        for (int i = 0; i < 24; i++) due("family " + i, i, x.family(100 + i % 9 * 100, 0));
        due("a 25th", NONE, x.family(900, 0));
        due("count(3)", 24, x.count(3));
        due("count(7)", 2 * 45 + 21, x.count(7));
        due("told(23, 3)", 6, x.told(23, 3));
        due("told(24, 3)", NONE, x.told(24, 3));
        law(x, "limit all;");
        due("all", 2 * 45 + 21, x.rank(0, 1));
        due("a day of 24 families", 1, x.go(1));
        due("heads of that day", 2 * 45 + 21, x.ended(0, 0));
        due("the last one", 100, x.night(23, 0));
        x.leave(0);
        due("one that is gone is one of the 24", NONE, x.family(100, 0));
    }

    @Sentence("HEADS (1 .. 9), of these PUPILS (0 .. HEADS), LAME or not")
    static void heads() {
        for (int what = -1050; what <= 1150; what++) {
            boolean can = what >= 100 && what < 1000 && what / 10 % 10 <= what / 100 && what % 10 <= 1;
            BedOffice x = new BedOffice();
            due("family(" + what + ", 0)", can ? 0 : NONE, x.family(what, 0));
            due("count(7)", can ? what / 100 : 0, x.count(7));
            if (!can) continue;
            law(x, "ahead heads*100+pupils*10+lame;limit all;");
            due("heads, pupils, lame of " + what, what, x.rank(0, 0));
            due("all, with " + what, what / 100, x.rank(0, 1));
        }
    }

    @Sentence("a TONGUE, a TRADE, a CLAN (0 .. 5)")
    static void kinds() {
        for (int kind = -1050; kind <= 1150; kind++) {
            boolean can = kind >= 0 && kind / 100 <= 3 && kind / 10 % 10 <= 5 && kind % 10 <= 5;
            BedOffice x = new BedOffice();
            due("family(100, " + kind + ")", can ? 0 : NONE, x.family(100, kind));
            if (!can) continue;
            law(x, "ahead tongue*100+trade*10+clan;");
            due("tongue, trade, clan of " + kind, kind, x.rank(0, 0));
        }
    }

    @Sentence("Each comes on NOW to THE HALL; it is IN THE HALL (0), HOUSED in a HOME (1), or GONE (2).")
    static void whereTheyAre() {
        BedOffice x = new BedOffice();
        x.go(3);
        x.family(200, 0);
        due("it came on", 3, x.told(0, 4));
        due("in the hall", 0, x.told(0, 0));
        due("no home", NONE, x.told(0, 1));
        due("heads in the hall", 2, x.count(7));
        x.town(0, 0, 0);
        x.home(0, 204, 200);
        x.place();
        due("housed", 1, x.told(0, 0));
        due("its home", 0, x.told(0, 1));
        due("heads in the hall", 0, x.count(7));
        x.leave(0);
        due("gone", 2, x.told(0, 0));
        due("no home", NONE, x.told(0, 1));
        due("heads in the hall", 0, x.count(7));
        due("it came on", 3, x.told(0, 4));
    }

    @Sentence("A WISH is a TOWN, or none.")
    static void wishes() {
        BedOffice x = new BedOffice();
        x.town(0, 0, 0);
        x.town(0, 0, 0);
        x.family(100, 0);
        due("none at first", NONE, x.told(0, 5));
        due("a town", true, x.wish(0, 1));
        due("told(0, 5)", 1, x.told(0, 5));
        due("none", true, x.wish(0, NONE));
        due("told(0, 5)", NONE, x.told(0, 5));
    }

    /** Clan 0 is housed in the town at mile 100: the bar of clan 1 for homes in towns at other miles. */
    private static void apart(int miles, int mile, int bar) {
        BedOffice x = new BedOffice();
        x.town(100, 0, 0);
        x.town(mile, 0, 0);
        x.home(0, 104, 200);
        x.family(100, 0);
        x.place();
        x.home(1, 104, 200);
        x.family(100, 1);
        due("apart by " + miles, true, x.apart(0, 1, miles));
        due("apart by " + miles + ", from 100 to " + mile, bar, x.bar(1, 1));
    }

    @Sentence("Two CLANS may be told to be APART by so many MILES (1 .. 200).")
    static void clans() {
        apart(1, 100, 8);
        apart(1, 101, 0);
        apart(1, 99, 0);
        apart(200, 299, 8);
        apart(200, 300, 0);
        apart(0, 100, 0);
        BedOffice x = new BedOffice();
        due("201", false, x.apart(0, 1, 201));
        due("-1", false, x.apart(0, 1, -1));
        for (int n : FAR) due("miles " + n, false, x.apart(0, 1, n));
        for (int one = -1; one <= 6; one++) {
            for (int other = -1; other <= 6; other++) {
                boolean can = Math.min(one, other) >= 0 && Math.max(one, other) <= 5 && one != other;
                due("apart(" + one + ", " + other + ", 1)", can, x.apart(one, other, 1));
            }
        }
    }

    @Sentence("NIGHTS of a FAMILY are DAYS that ended as it was IN THE HALL.")
    static void nights() {
        BedOffice x = new BedOffice();
        x.go(2);
        x.town(0, 0, 0);
        x.home(0, 104, 200);
        x.family(100, 0);
        due("none at first", 0, x.told(0, 2));
        x.go(2);
        due("two in the hall", 2, x.told(0, 2));
        x.place();
        x.go(3);
        due("three housed", 2, x.told(0, 2));
        x.move(0, NONE);
        x.place();
        x.move(0, NONE);
        x.go(1);
        due("one more in the hall", 3, x.told(0, 2));
        x.leave(0);
        x.go(4);
        due("four gone", 3, x.told(0, 2));
    }

    // ---- 2: records

    @Sentence("RECORDS have numbers as they come, at most 60")
    static void records() {
        BedOffice x = new BedOffice();
        x.family(100, 0);
        x.family(100, 0);
        for (int i = 0; i < 60; i++) due("record " + i, i, x.record(i % 3, 100000 + i, 5, 1001 * i, NONE));
        x.seek(0, 777777, 5);
        due("a 61st", NONE, x.record(0, 777777, 5, 0, 1));
        due("count(4)", 60, x.count(4));
        due("nothing is found by it", NONE, x.finds(0, 1));
        due("the last one", true, x.same(59, 59));
        due("its match", 9, x.match(59));
        due("joined", 2, x.join(59, 0));
        due("joined", 3, x.join(0, 58));
        due("parted", 3, x.part(59));
        due("none such", false, x.same(60, 60));
    }

    @Sentence("a LIST (0 .. 2)")
    static void lists() {
        BedOffice x = new BedOffice();
        for (int list = 0; list <= 2; list++) due("list " + list, list, x.record(list, 0, 0, list * 1001, NONE));
        for (int one = 0; one <= 2; one++) {
            for (int other = 0; other <= 2; other++) due("alike(" + one + ", " + other + ")", one == other ? LEAST : 6, x.alike(one, other));
        }
        due("list -1", NONE, x.record(-1, 0, 0, 0, NONE));
        due("list 3", NONE, x.record(3, 0, 0, 0, NONE));
    }

    @Sentence("a NAME (six digits)")
    static void names() {
        BedOffice x = new BedOffice();
        due("0", 0, x.record(0, 0, 0, 0, NONE));
        due("999999", 1, x.record(0, 999999, 0, 0, NONE));
        due("1000000", NONE, x.record(0, 1000000, 0, 0, NONE));
        due("-1", NONE, x.record(0, -1, 0, 0, NONE));
        x.record(1, 9, 0, 1001, NONE);
        due("000000 and 000009", 5, x.alike(0, 2));
        due("999999 and 000009", 1, x.alike(1, 2));
        x.record(2, 900000, 0, 1001, NONE);
        due("000000 and 900000", 5, x.alike(0, 3));
        due("999999 and 900000", 1, x.alike(1, 3));
    }

    @Sentence("BORN (0 .. 120)")
    static void born() {
        BedOffice x = new BedOffice();
        due("0", 0, x.record(0, 0, 0, 0, NONE));
        due("120", 1, x.record(1, 0, 120, 1001, NONE));
        due("121", NONE, x.record(0, 0, 121, 0, NONE));
        due("-1", NONE, x.record(0, 0, -1, 0, NONE));
        due("120 years", 6 - 120, x.alike(0, 1));
        due("the other way round", 6 - 120, x.alike(1, 0));
    }

    @Sentence("SEEN from a DAY to a DAY, a FAMILY of which it is, or none.")
    static void seen() {
        BedOffice x = new BedOffice();
        due("0 to 0", 0, x.record(0, 0, 0, 0, NONE));
        due("0 to 200", 1, x.record(0, 0, 0, 200, NONE));
        due("200 to 200", 2, x.record(0, 0, 0, 200200, NONE));
        due("0 to 201", NONE, x.record(0, 0, 0, 201, NONE));
        due("201 to 201", NONE, x.record(0, 0, 0, 201201, NONE));
        due("5 to 4", NONE, x.record(0, 0, 0, 5004, NONE));
        due("-1", NONE, x.record(0, 0, 0, -1, NONE));
        due("-1001", NONE, x.record(0, 0, 0, -1001, NONE));
        due("no such family", NONE, x.record(0, 0, 0, 0, 0));
        x.family(100, 0);
        due("a family", 3, x.record(0, 0, 0, 0, 0));
        due("no such family", NONE, x.record(0, 0, 0, 0, 1));
        due("-2", NONE, x.record(0, 0, 0, 0, -2));
    }

    @Sentence("Two RECORDS of unlike LISTS are ALIKE by so many points: a point for each place in which their NAMES have the same digit, "
            + "less the years by which BORN differs")
    static void alike() {
        BedOffice x = new BedOffice();
        x.record(0, 123456, 60, 0, NONE);
        int at = 1;
        for (int place = 1; place <= 100000; place *= 10) {
            x.record(1, 123456 + place, 60, 1001, NONE);
            due("another digit at " + place, 5, x.alike(0, at));
            at++;
        }
        x.record(1, 234561, 60, 1001, NONE);
        due("the same digits at other places", 0, x.alike(0, at));
        x.record(1, 123456, 54, 1001, NONE);
        due("six years", 0, x.alike(0, at + 1));
        x.record(1, 123456, 67, 1001, NONE);
        due("seven years: below 0", -1, x.alike(0, at + 2));
        x.record(1, 0, 120, 1001, NONE);
        due("60 years, no digit", -60, x.alike(0, at + 3));
        due("of one list", LEAST, x.alike(1, 2));
    }

    @Sentence("BARRED, if the DAYS on which they were SEEN have one in common")
    static void barred() {
        int[][] seen = {{5010, 10012}, {5010, 11012}, {5010, 4}, {5010, 5}, {5010, 6007}, {5010, 4011}, {5010, 5010}, {7007, 7007},
            {0, 0}, {200200, 200}, {200200, 199}, {0, 1200}, {1001, 100100}};
        boolean[] common = {true, false, false, true, true, true, true, true, true, true, false, false, false};
        for (int i = 0; i < seen.length; i++) {
            BedOffice x = new BedOffice();
            x.record(0, 5, 5, seen[i][0], NONE);
            x.record(1, 5, 5, seen[i][1], NONE);
            String days = seen[i][0] + " and " + seen[i][1];
            due(days, common[i] ? LEAST : 6, x.alike(0, 1));
            due(days, common[i] ? LEAST : 6, x.alike(1, 0));
            due("match, " + days, common[i] ? NONE : 1, x.match(0));
            due("join, " + days, common[i] ? NONE : 2, x.join(0, 1));
        }
    }

    @Sentence("JOINED are RECORDS told so (each heap of at most one of each LIST, none of them BARRED by another): a heap is joined with a heap.")
    static void joined() {
        BedOffice x = new BedOffice();
        for (int i = 0; i < 6; i++) x.record(i % 3, i, i, 1001 * i, NONE);
        due("two", 2, x.join(0, 1));
        due("two more", 2, x.join(4, 5));
        due("heaps with list 1 twice", NONE, x.join(0, 4));
        due("heaps with list 1 twice, by others of them", NONE, x.join(0, 5));
        due("list 0 twice", NONE, x.join(3, 0));
        due("three", 3, x.join(3, 4));
        due("the third list", 3, x.join(1, 2));
        due("each list twice", NONE, x.join(2, 3));
        due("one heap", true, x.same(0, 2));
        due("two heaps", false, x.same(2, 3));
        BedOffice y = new BedOffice();
        y.record(0, 1, 1, 0, NONE);
        y.record(1, 1, 1, 5007, NONE);
        y.record(2, 1, 1, 7007, NONE);
        due("two", 2, y.join(0, 1));
        due("barred by one of the heap, told by another one", NONE, y.join(2, 0));
        due("and the other way round", NONE, y.join(0, 2));
        due("not joined", false, y.same(0, 2));
        y.part(1);
        due("parted: no more", 2, y.join(2, 0));
    }

    @Sentence("PARTED are all of a heap told so.")
    static void parted() {
        BedOffice x = new BedOffice();
        for (int i = 0; i < 6; i++) x.record(i % 3, i, i, 1001 * i, NONE);
        x.join(0, 1);
        x.join(1, 2);
        x.join(3, 4);
        due("three", 3, x.part(2));
        for (int i = 0; i < 3; i++) {
            for (int j = 0; j < 3; j++) due("same(" + i + ", " + j + ")", i == j, x.same(i, j));
        }
        due("another heap stays", true, x.same(3, 4));
        due("each is a heap", 1, x.part(0));
        due("joined anew", 2, x.join(0, 5));
        due("the others stay parted", false, x.same(1, 0));
    }

    @Sentence("of all of other LISTS that aren't BARRED to it and ALIKE by 4 points at least, the one ALIKE by most, of like ones the least number")
    static void match() {
        BedOffice x = new BedOffice();
        x.record(0, 123456, 50, 10020, NONE);
        due("nobody", NONE, x.match(0));
        x.record(0, 123456, 50, 0, NONE);
        due("of its own list", NONE, x.match(0));
        x.record(1, 123456, 50, 20020, NONE);
        due("barred", NONE, x.match(0));
        x.record(1, 123999, 50, 0, NONE);
        due("three points", NONE, x.match(0));
        x.record(2, 123456, 53, 0, NONE);
        due("three points by years", NONE, x.match(0));
        x.record(2, 123499, 50, 0, NONE);
        due("four points", 5, x.match(0));
        x.record(1, 123456, 48, 0, NONE);
        due("as many: the least number", 5, x.match(0));
        x.record(1, 123457, 50, 21200, NONE);
        due("five points", 7, x.match(0));
        x.record(2, 123456, 50, 9, NONE);
        due("six points", 8, x.match(0));
        x.record(1, 123456, 50, 9, NONE);
        due("as many: the least number", 8, x.match(0));
        due("4 points at least, of the other's side", 0, x.match(5));
        x.record(2, 123455, 50, 9, NONE);
        x.record(2, 123999, 50, 9, NONE);
        due("later ones of fewer points", 8, x.match(0));
    }

    @Sentence("RIVALS are all others of as many points.")
    static void rivals() {
        BedOffice x = new BedOffice();
        x.record(0, 123456, 50, 10020, NONE);
        due("no match", NONE, x.rivals(0));
        x.record(1, 123455, 50, 0, NONE);
        due("none", 0, x.rivals(0));
        x.record(1, 123455, 50, 15015, NONE);
        x.record(0, 123455, 50, 0, NONE);
        x.record(2, 123444, 50, 0, NONE);
        due("barred, of its list, of fewer points", 0, x.rivals(0));
        x.record(2, 123456, 51, 0, NONE);
        due("one", 1, x.rivals(0));
        x.record(1, 923456, 50, 0, NONE);
        due("two", 2, x.rivals(0));
        x.join(0, 1);
        due("joined ones, too", 2, x.rivals(0));
        x.record(2, 123456, 50, 0, NONE);
        due("another match", 0, x.rivals(0));
    }

    // ---- 2: who seeks whom

    @Sentence("A FAMILY SEEKS (at most 40 in all) a NAME and BORN.")
    static void seekings() {
        BedOffice x = new BedOffice();
        x.family(100, 0);
        x.family(100, 0);
        x.record(0, 999999, 5, 0, 1);
        for (int i = 0; i < 40; i++) due("seeking " + i, true, x.seek(i % 2, i, 5));
        due("a 41st", false, x.seek(0, 999999, 5));
        due("of the other one", false, x.seek(1, 999999, 5));
        due("count(12)", 40, x.count(12));
        due("nothing is found by it", NONE, x.finds(0, 1));
        due("nobody is kin by it", 0, x.kin(0));
    }

    @Sentence("It FINDS another FAMILY by a RECORD of that one, or one JOINED to such a RECORD, if that one has 5 points at least by the NAME "
            + "and BORN that are sought (as above; of any LIST, and whenever SEEN): the greatest of all is HOW SURELY.")
    static void finds() {
        BedOffice x = new BedOffice();
        for (int i = 0; i < 4; i++) x.family(100, 0);
        x.seek(0, 123456, 50);
        x.record(0, 123444, 50, 0, 1);
        due("four points", NONE, x.finds(0, 1));
        x.record(0, 123456, 52, 0, 1);
        due("four points by years", NONE, x.finds(0, 1));
        x.record(1, 123456, 51, 5005, NONE);
        due("five points, of nobody", NONE, x.finds(0, 1));
        due("joined to the first one", 2, x.join(0, 2));
        due("five points, by one joined", 5, x.finds(0, 1));
        x.record(2, 123456, 50, 9009, 2);
        due("six points of another one", 6, x.finds(0, 2));
        due("not joined yet", 5, x.finds(0, 1));
        x.join(2, 3);
        due("six points, by way of 2", 6, x.finds(0, 1));
        x.record(1, 123451, 50, 9009, 1);
        due("a later one of five", 6, x.finds(0, 1));
        x.part(4);
        due("its own, and five by one joined: the greatest", 6, x.finds(0, 2));
        x.part(0);
        due("parted: the later one", 5, x.finds(0, 1));
        due("its own", 6, x.finds(0, 2));
        x.seek(3, 123477, 52);
        due("four points by another family's seeking", NONE, x.finds(3, 1));
        x.seek(3, 123446, 50);
        due("five points by one more", 5, x.finds(3, 1));
        x.record(1, 123446, 50, 200, 3);
        due("of list 1, seen on all days: five points", 5, x.finds(0, 3));
        x.seek(0, 123446, 50);
        due("six points", 6, x.finds(0, 3));
        due("nothing is sought by it", NONE, x.finds(1, 0));
    }

    @Sentence("KIN are two FAMILIES of which one finds the other; MUTUAL, if each finds the other.")
    static void kin() {
        BedOffice x = new BedOffice();
        for (int i = 0; i < 24; i++) x.family(100, 0);
        x.seek(0, 111111, 50);
        x.record(0, 111111, 50, 0, 1);
        due("a record that comes later than what is sought", 2, x.kin(0));
        due("of that one", 1, x.kin(1));
        due("one way", 0, x.mutual(0) + x.mutual(1));
        x.record(1, 222222, 50, 7007, 0);
        x.seek(1, 222222, 51);
        due("what is sought later than a record", 2, x.mutual(0));
        due("both ways", 1, x.mutual(1));
        x.record(1, 333333, 50, 5005, 23);
        due("not joined", 0, x.kin(23));
        x.join(2, 0);
        due("23 by one joined", 2 | 1 << 23, x.kin(0));
        due("of 23", 1, x.kin(23));
        due("one way", 2, x.mutual(0));
        x.record(2, 444444, 50, 9009, 0);
        x.seek(23, 444444, 50);
        due("23 and 0 both ways", 2 | 1 << 23, x.mutual(0));
        x.part(2);
        due("parted: 23 finds 0 still", 2 | 1 << 23, x.kin(0));
        due("one way again", 2, x.mutual(0));
        due("of 23", 1, x.kin(23));
        due("of 23", 0, x.mutual(23));
        BedOffice y = new BedOffice();
        for (int i = 0; i < 3; i++) y.family(100, 0);
        y.seek(0, 111111, 50);
        y.record(0, 111111, 50, 0, NONE);
        y.record(1, 0, 0, 5005, 2);
        due("nobody", 0, y.kin(0));
        y.join(0, 1);
        due("by one joined", 4, y.kin(0));
        y.part(0);
        due("parted", 0, y.kin(0));
        due("parted", 0, y.kin(2));
        y.record(2, 111111, 50, 0, 0);
        due("not of itself", 0, y.kin(0));
        y.join(2, 1);
        due("joined to one of its own", 4, y.kin(0));
        BedOffice z = new BedOffice();
        for (int i = 0; i < 4; i++) z.family(100, 0);
        for (int f = 0; f < 4; f++) z.record(0, 111111 * f, 50, 0, f);
        for (int f = 0; f < 4; f++) z.seek(f, 111111 * f, 50);
        for (int f = 0; f < 4; f++) due("what is sought is its own: kin(" + f + ")", 0, z.kin(f));
        for (int f = 0; f < 3; f++) {
            z.seek(3, 111111 * f, 50);
            z.seek(f, 333333, 50);
        }
        due("three, each both ways", 7, z.mutual(3));
        due("three, each both ways", 7, z.kin(3));
    }
}
