/** Sentences of the document's terms, part 5: what is shown, the best for some, what is foretold, another law beside, and checks. */
final class AheadSentences extends Checked {
    private AheadSentences() { }

    // ---- shown

    @Sentence("SHOWN is something of a FAMILY to who asks (a FAMILY, or a TOWN: 100 and its number): 0 where it is, as it was told then (0 .. 2), "
            + "1 its TOWN, 2 HEADS, 3 NIGHTS:")
    static void shown() {
        BedOffice x = new BedOffice();
        x.town(0, 0, 0);
        x.town(0, 0, 0);
        x.home(1, 304, 200);
        x.family(300, 0);
        x.family(200, 0);
        law(x, "show 1=1;");
        x.go(2);
        int[][] due = {{0, NONE, 3, 2}, {1, 1, 3, 2}, {2, NONE, 3, 2}};
        for (int state = 0; state < 3; state++) {
            if (state == 1) x.place();
            if (state == 2) x.leave(0);
            for (int who : new int[] {0, 1, 100, 101}) {
                for (int what = 0; what < 4; what++) {
                    due("where " + state + ", show(" + who + ", 0, " + what + ")", due[state][what], x.show(who, 0, what));
                }
            }
            x.go(state);
        }
    }

    @Sentence("if show holds (own: whether that FAMILY asks), or a TOWN asks in which it is HOUSED.")
    static void toWhom() {
        BedOffice x = new BedOffice();
        x.town(0, 0, 0);
        x.town(0, 0, 0);
        x.family(300, 0);
        x.family(200, 0);
        due("in the hall, to town 0", NONE, x.show(100, 0, 2));
        x.home(0, 304, 200);
        x.home(1, 204, 200);
        x.place();
        due("to its town, number 0", 3, x.show(100, 0, 2));
        due("to the other town", NONE, x.show(101, 0, 2));
        due("to its town, number 1", 2, x.show(101, 1, 2));
        due("to the other town", NONE, x.show(100, 1, 2));
        due("to itself", NONE, x.show(0, 0, 2));
        law(x, "show own=1;");
        due("to itself", 3, x.show(0, 0, 2));
        due("to another one", NONE, x.show(1, 0, 2));
        due("to the other town", NONE, x.show(101, 0, 2));
        law(x, "show heads=2;");
        due("to all", 2, x.show(0, 1, 2));
        due("to all", 2, x.show(100, 1, 2));
        due("not of family 0", NONE, x.show(1, 0, 2));
        due("but to its town", 3, x.show(100, 0, 2));
        x.move(0, NONE);
        due("to its town no more", NONE, x.show(100, 0, 2));
        x.place();
        x.leave(0);
        due("to its town no more", NONE, x.show(100, 0, 2));
    }

    @Sentence("What isn't SHOWN, and what isn't there, is NONE alike.")
    static void notThere() {
        BedOffice x = new BedOffice();
        x.town(0, 0, 0);
        x.family(300, 0);
        law(x, "show 1=1;");
        due("there", 3, x.show(0, 0, 2));
        for (int n : FAR) {
            due("show(" + n + ", 0, 2)", NONE, x.show(n, 0, 2));
            due("show(0, " + n + ", 2)", NONE, x.show(0, n, 2));
            due("show(0, 0, " + n + ")", NONE, x.show(0, 0, n));
        }
        for (int who : new int[] {-1, 1, 24, 99, 101, 108, 200}) due("show(" + who + ", 0, 2)", NONE, x.show(who, 0, 2));
        due("no such family", NONE, x.show(0, 1, 2));
        due("no such family", NONE, x.show(0, -1, 2));
        due("what 4", NONE, x.show(0, 0, 4));
        due("what -1", NONE, x.show(0, 0, -1));
        due("no town", NONE, x.show(0, 0, 1));
        law(x, "show 1=2;");
        due("not shown", NONE, x.show(0, 0, 2));
    }

    // ---- the best

    @Sentence("BEST for FAMILIES (bits; 1 to 6 of them, not GONE; those HOUSED are thought out of their HOMES ahead (nothing is done)) "
            + "and HOMES (bits; 1 to 6):")
    static void whatBestTakes() {
        BedOffice x = new BedOffice();
        x.town(0, 1509, 63);
        for (int i = 0; i < 24; i++) x.home(0, 204, 200);
        for (int i = 0; i < 24; i++) x.family(210, 0);
        due("none of the families", NONE, x.best(0, 1, NONE));
        due("none of the homes", NONE, x.best(1, 0, NONE));
        due("1 and 1", 2, x.best(1, 1, NONE));
        due("6 and 6", 12, x.best(63, 63, NONE));
        due("7 and 6", NONE, x.best(127, 63, NONE));
        due("6 and 7", NONE, x.best(63, 127, NONE));
        due("the last ones", 12, x.best(63 << 18, 63 << 18, NONE));
        due("the last one's home", 23, x.best(63 << 18, 63 << 18, 5));
        due("a 25th family", NONE, x.best(1 << 24, 1, NONE));
        due("a 25th home", NONE, x.best(1, 1 << 24, NONE));
        due("the highest bit", NONE, x.best(LEAST, 1, NONE));
        due("the highest bit", NONE, x.best(1, LEAST, NONE));
        due("all bits", NONE, x.best(-1, -1, NONE));
        x.place();
        for (int f = 0; f < 10; f++) due("seats for nine: told(" + f + ", 0)", f < 9 ? 1 : 0, x.told(f, 0));
        due("one that is housed, with its own home", 2, x.best(2, 2, NONE));
        due("its seat is free in thought: for one of two", 2, x.best(2 | 512, 3 << 9, NONE));
        due("the first of them", 9, x.best(2 | 512, 3 << 9, 0));
        due("none for the other one", NONE, x.best(2 | 512, 3 << 9, 1));
        due("nothing is done", 1, x.told(1, 1));
        due("nothing is done", 18, x.is(0, 1));
        due("nothing is done", 0, x.is(0, 2));
        due("nothing is done", 2, x.bar(9, 1));
        x.leave(23);
        due("gone", NONE, x.best(1 << 23, 1, NONE));
        due("one of them is gone", NONE, x.best(3 << 22, 1, NONE));
    }

    @Sentence("each to one of these, or to none, two never to one;")
    static void eachToOne() {
        BedOffice x = new BedOffice();
        x.town(0, 0, 0);
        for (int i = 0; i < 3; i++) x.home(0, 204, 200);
        x.family(200, 0);
        x.family(100, 0);
        x.family(200, 0);
        due("one home for three", 2, x.best(7, 2, NONE));
        due("the first", 1, x.best(7, 2, 0));
        due("none", NONE, x.best(7, 2, 1));
        due("none", NONE, x.best(7, 2, 2));
        due("two for three", 4, x.best(7, 6, NONE));
        due("the first", 1, x.best(7, 6, 0));
        due("none", NONE, x.best(7, 6, 1));
        due("the second", 2, x.best(7, 6, 2));
        due("three for three", 5, x.best(7, 7, NONE));
        for (int k = 0; k < 3; k++) due("k " + k, k, x.best(7, 7, k));
        x.family(900, 0);
        due("none for the one of most heads", 5, x.best(15, 7, NONE));
        x.home(0, 904, 200);
        due("one home: the one of most heads", 9, x.best(15, 8, NONE));
        for (int k = 0; k < 4; k++) due("k " + k, k == 3 ? 3 : NONE, x.best(15, 8, k));
        due("three for one", 1, x.best(2, 7, NONE));
        due("the least number", 0, x.best(2, 7, 0));
    }

    @Sentence("each without a BAR as it would be with none of these FAMILIES HOUSED but those ahead of it by numbers, as they were given:")
    static void bestBars() {
        BedOffice x = new BedOffice();
        x.town(0, 1502, 0);
        x.town(50, 1540, 0);
        x.home(0, 904, 200);
        x.home(0, 904, 200);
        x.home(1, 904, 200);
        x.family(310, 0);
        x.family(420, 1);
        due("alone: two pupils, two seats", 4, x.best(2, 1, NONE));
        due("seats of town 0 are for one or the other", 4, x.best(3, 3, NONE));
        due("the one of more heads", NONE, x.best(3, 3, 0));
        due("the one of more heads", 0, x.best(3, 3, 1));
        due("in two towns", 7, x.best(3, 7, NONE));
        due("the first way", 0, x.best(3, 7, 0));
        due("the first way", 2, x.best(3, 7, 1));
        x.apart(0, 1, 51);
        due("apart: one or the other", 4, x.best(3, 7, NONE));
        x.apart(0, 1, 50);
        due("far enough", 7, x.best(3, 7, NONE));
        x.full(1, true);
        due("full", 4, x.best(3, 7, NONE));
        x.full(1, false);
        // The one behind finds its kin there, the one ahead doesn't yet.
        x.record(0, 5, 5, 0, 0);
        x.seek(1, 5, 5);
        law(x, "must kin>0 or heads=3;");
        due("its kin isn't housed", 0, x.best(2, 7, NONE));
        due("its kin is ahead of it, but seats are short", 3, x.best(3, 3, NONE));
        due("in that town alone", NONE, x.best(3, 7, 1));
        law(x, "must kin>0 or heads=4;");
        due("its kin comes behind it", 4, x.best(3, 7, NONE));
        due("so it gets none", NONE, x.best(3, 7, 0));
        law(x, "must 1=1;");
        x.place();
        due("both are housed", 2, x.told(0, 0) + x.told(1, 0));
        x.family(100, 0);
        due("one that isn't asked for stays housed", NONE, x.best(4, 1, 0));
        due("of like heads and no pairs, the first way", 0, x.best(5, 1, 0));
    }

    @Sentence("the most HEADS, of like ones the most pairs of KIN of them in one TOWN, of like ones the most WISHES met, of like ones the first way "
            + "(by FAMILIES; HOMES by numbers, none last).")
    static void bestOrder() {
        BedOffice x = new BedOffice();
        x.town(0, 0, 0);
        x.town(0, 0, 0);
        x.home(0, 304, 200);
        x.home(0, 304, 200);
        x.home(1, 304, 200);
        x.home(1, 904, 200);
        for (int f = 0; f < 3; f++) x.family(300, 0);
        x.family(600, 0);
        ways(x, 7, 15, 9, 0, 1, 2);
        x.wish(0, 1);
        x.wish(1, 1);
        ways(x, 7, 15, 9, 2, 3, 0);
        x.record(0, 5, 5, 0, 1);
        x.seek(2, 5, 5);
        ways(x, 7, 7, 9, 2, 0, 1);
        x.record(0, 77, 5, 0, 2);
        x.seek(0, 77, 5);
        // Pairs 0-2 and 1-2, of which one at most can be met: each meets one wish, so the first way.
        ways(x, 7, 7, 9, 0, 2, 1);
        x.wish(2, 1);
        ways(x, 7, 7, 9, 0, 2, 1);
        // Three wishes would be met without a pair.
        x.wish(1, 0);
        x.wish(0, 0);
        ways(x, 7, 7, 9, 0, 2, 1);
        x.wish(0, 1);
        ways(x, 7, 7, 9, 2, 0, 1);
        x.wish(0, 0);
        x.wish(2, 0);
        ways(x, 7, 7, 9, 0, 2, 1);
        // Four for two homes: the six heads and three of the others.
        ways(x, 15, 12, 9, 2, NONE, NONE, 3);
        ways(x, 15, 8, 6, NONE, NONE, NONE, 3);
        ways(x, 9, 9, 9, 0, 3);
        ways(x, 1, 9, 3, 0);
        x.wish(0, 1);
        ways(x, 1, 9, 3, 3);
        BedOffice y = new BedOffice();
        y.town(0, 0, 0);
        y.home(0, 104, 200);
        y.home(0, 104, 200);
        for (int f = 0; f < 3; f++) y.family(100, 0);
        ways(y, 7, 3, 2, 0, 1, NONE);
        y.wish(2, 0);
        ways(y, 7, 3, 2, 0, NONE, 1);
        y.record(0, 5, 5, 0, 1);
        y.seek(2, 5, 5);
        ways(y, 7, 3, 2, NONE, 0, 1);
        BedOffice z = new BedOffice();
        z.town(0, 0, 0);
        z.town(0, 0, 0);
        for (int h = 0; h < 4; h++) z.home(h / 2, 904, 200);
        for (int f = 0; f < 4; f++) z.family(100, 0);
        z.wish(0, 1);
        ways(z, 15, 15, 4, 2, 0, 1, 3);
        z.wish(0, NONE);
        z.wish(3, 0);
        ways(z, 15, 15, 4, 0, 2, 3, 1);
        // What was found for four is forgotten for three, two and one.
        ways(z, 7, 15, 3, 0, 1, 2);
        ways(z, 3, 15, 2, 0, 1);
        ways(z, 1, 15, 1, 0);
        z.record(0, 5, 5, 0, 3);
        z.seek(0, 5, 5);
        ways(z, 15, 15, 4, 0, 2, 3, 1);
        ways(z, 7, 15, 3, 0, 1, 2);
        z.family(900, 0);
        ways(z, 30, 12, 10, 2, NONE, NONE, 3);
        ways(z, 14, 12, 2, 2, 3, NONE);
        // The law's best is another than who stands there: three heads where one was.
        BedOffice w = new BedOffice();
        w.town(0, 0, 0);
        w.home(0, 304, 200);
        w.family(100, 0);
        w.place();
        w.family(200, 0);
        w.family(300, 0);
        ways(w, 7, 1, 3, NONE, NONE, 0);
        ways(w, 3, 1, 2, NONE, 0);
        ways(w, 1, 1, 1, 0);
        ways(w, 6, 1, 0, NONE, NONE);
        due("nothing is done", 0, w.told(0, 1));
        // One that comes behind leaves its home to one that is ahead of it.
        BedOffice v = new BedOffice();
        v.town(0, 0, 0);
        v.home(0, 104, 200);
        v.family(100, 0);
        v.family(100, 1);
        law(v, "ahead clan;");
        v.place();
        due("the second one is housed", 0, v.told(1, 1));
        ways(v, 3, 1, 1, 0, NONE);
        ways(v, 1, 1, 0, NONE);
        ways(v, 2, 1, 1, 0);
        due("nothing is done", 0, v.told(1, 1));
    }

    private static void ways(BedOffice x, int families, int homes, int heads, int... way) {
        String told = "best(" + families + ", " + homes + ", ";
        due(told + "NONE)", heads, x.best(families, homes, NONE));
        for (int k = 0; k < way.length; k++) due(told + k + ")", way[k], x.best(families, homes, k));
        due(told + way.length + ")", NONE, x.best(families, homes, way.length));
    }

    // ---- foretold

    @Sentence("FORETOLD are for a DAY HEADS that come by boat (from low to high; at most 40 tellings; 0 to 200 each) and BEDS more or fewer "
            + "from that DAY on (-100 .. 100; likewise at most 40).")
    static void foretold() {
        BedOffice x = new BedOffice();
        due("low -1", NONE, x.boat(0, -1, 0));
        due("high 201", NONE, x.boat(0, 0, 201));
        due("low above high", NONE, x.boat(0, 6, 5));
        due("-101", NONE, x.foretell(0, -101));
        due("101", NONE, x.foretell(0, 101));
        due("0 to 200", 1, x.boat(0, 0, 200));
        due("0 to 0", 2, x.boat(0, 0, 0));
        due("200 to 200", 3, x.boat(3, 200, 200));
        due("low", 0, x.worst(2, 2));
        due("high", 200, x.worst(2, 0));
        due("low", 200, x.worst(3, 2));
        due("high", 400, x.worst(3, 0));
        due("100 more", 1, x.foretell(0, 100));
        due("high less beds", 300, x.worst(3, 0));
        due("100 more", 2, x.foretell(1, 100));
        due("and from that day on", 200, x.worst(3, 0));
        due("100 fewer", 3, x.foretell(2, -100));
        due("and from that day on", 300, x.worst(3, 0));
        for (int i = 4; i <= 40; i++) {
            due("boat " + i, i, x.boat(200, 1, 1));
            due("foretell " + i, i, x.foretell(200, -100));
        }
        due("a 41st boat", NONE, x.boat(200, 100, 100));
        due("41st beds", NONE, x.foretell(200, 1));
        due("count(10)", 40, x.count(10));
        due("count(11)", 40, x.count(11));
        due("400 and 37, no beds", 437, x.worst(200, 0));
    }

    @Sentence("WORST: from NOW on, HEADS IN THE HALL now, and all high up to a DAY, less all BEDS of THE HALL then "
            + "(BEDS now and all foretold from NOW on; 0 at least): the greatest of all DAYS to a DAY, 0 at least;")
    static void worst() {
        BedOffice x = new BedOffice();
        due("nobody", 0, x.worst(200, 0));
        x.beds(10);
        due("0 at least", 0, x.worst(200, 0));
        x.family(400, 0);
        x.boat(1, 0, 6);
        due("as many as beds", 0, x.worst(200, 0));
        x.boat(3, 0, 5);
        x.foretell(4, 100);
        x.foretell(2, -3);
        int[] worst = {0, 0, 3, 8, 8, 8};
        for (int day = 0; day < 6; day++) due("worst(" + day + ", 0)", worst[day], x.worst(day, 0));
        x.foretell(5, -100);
        x.foretell(5, -100);
        due("0 beds at least: 15 heads", 15, x.worst(5, 0));
        x.foretell(6, 100);
        x.boat(6, 0, 1);
        due("beds are told before the 0: 10 - 3 + 100 - 200 + 100 = 7", 15, x.worst(6, 0));
        x.boat(7, 0, 10);
        due("26 heads, 7 beds", 19, x.worst(7, 0));
        BedOffice y = new BedOffice();
        y.foretell(3, -100);
        due("nobody, and fewer beds than none", 0, y.worst(200, 0));
        x.go(2);
        due("boats of days ahead are past: 4 heads, 7 beds", 0, x.worst(2, 0));
        due("4 and 5, 7 beds", 2, x.worst(3, 0));
        x.go(1);
        due("the 3 fewer are past", 0, x.worst(3, 0));
        x.boat(3, 9, 9);
        due("of NOW, too", 8, x.worst(3, 0));
        x.beds(0);
        due("beds now", 18, x.worst(3, 0));
        x.leave(0);
        due("heads now", 14, x.worst(3, 0));
    }

    @Sentence("FIRST the first DAY on which it is above 0.")
    static void first() {
        BedOffice x = new BedOffice();
        x.family(100, 0);
        due("on NOW", 0, x.worst(200, 1));
        due("on NOW, to NOW", 0, x.worst(0, 1));
        x.beds(1);
        due("0 isn't above 0", NONE, x.worst(200, 1));
        x.boat(200, 0, 1);
        due("the last day", 200, x.worst(200, 1));
        due("to the day ahead", NONE, x.worst(199, 1));
        x.foretell(7, -1);
        x.foretell(8, 1);
        due("the first day", 7, x.worst(200, 1));
        due("to that day", 7, x.worst(7, 1));
        due("to the day ahead", NONE, x.worst(6, 1));
        x.go(8);
        due("past: one bed now, one more from NOW on", NONE, x.worst(200, 1));
        x.foretell(9, -1);
        due("one head, one bed", 200, x.worst(200, 1));
        BedOffice y = new BedOffice();
        y.foretell(3, -100);
        due("nobody, and fewer beds than none", NONE, y.worst(200, 1));
        y.boat(4, 0, 1);
        due("one", 4, y.worst(200, 1));
    }

    @Sentence("MILD is the same with low.")
    static void mild() {
        BedOffice x = new BedOffice();
        x.family(300, 0);
        x.beds(5);
        x.boat(1, 2, 100);
        x.boat(2, 0, 100);
        x.boat(4, 1, 1);
        due("as many as beds", 0, x.worst(3, 2));
        due("one above", 1, x.worst(4, 2));
        x.foretell(3, -100);
        due("0 beds at least", 5, x.worst(3, 2));
        due("the greatest of all days", 6, x.worst(200, 2));
        due("worst", 204, x.worst(200, 0));
        x.boat(4, 2, 2);
        due("two boats of one day", 8, x.worst(200, 2));
        due("two boats of one day", 206, x.worst(200, 0));
        BedOffice y = new BedOffice();
        y.foretell(3, -100);
        due("nobody, and fewer beds than none", 0, y.worst(200, 2));
    }

    // ---- beside

    @Sentence("BESIDE: with a SHEET's CLAUSES in place of those IN FORCE (those that it has not, as IN FORCE), how many HEADS would be PLACED NOW, "
            + "nothing being done.")
    static void beside() {
        BedOffice x = new BedOffice();
        x.town(0, 0, 0);
        x.home(0, 904, 200);
        x.family(200, 10);
        x.family(300, 20);
        x.family(400, 30);
        law(x, "ahead heads;");
        law(x, "must heads<4;");
        law(x, "ahead 0-heads;");
        law(x, "must trade=1;ahead trade;");
        law(x, "limit 3;");
        due("both are its own", 2, x.beside(3));
        x.strike(3);
        due("by heads, must as in force: below 4", 3, x.beside(0));
        due("its must, ahead as in force: the least", 2, x.beside(1));
        due("its ahead", 2, x.beside(2));
        due("both are its own, and it is struck", 2, x.beside(3));
        due("neither is its own", 2, x.beside(4));
        x.strike(1);
        due("by heads, must holds", 4, x.beside(0));
        due("one that is struck", 2, x.beside(1));
        x.strike(2);
        due("one that is struck: must, and by heads", 3, x.beside(1));
        due("nothing is done", 9, x.count(7));
        due("nothing is done", 0, x.bar(0, 0));
        due("nothing is done", 0, x.why(0, 0));
        due("nothing is done", NONE, x.why(4, 0));
        due("in force", 4, x.rank(2, 0));
        due("place()", 1, x.place());
        due("by heads", 1, x.told(2, 0));
        due("passed by nobody", NONE, x.passed(0, 2));
        due("nobody can be placed", 0, x.beside(2));
        x.leave(2);
        x.leave(1);
        due("those in the hall alone", 2, x.beside(0));
        due("none such", NONE, x.beside(5));
    }

    // ---- checks

    @Sentence("CHECKED is a DAY that ended: five numbers of it: HEADS 0 IN THE HALL, 1 HOUSED, 2 GONE, 3 all that came, 4 sum of all TOWNS on that DAY;")
    static void numbersOfDays() {
        BedOffice x = new BedOffice();
        x.town(0, 0, 0);
        x.town(0, 0, 0);
        x.home(0, 104, 200);
        x.home(1, 204, 200);
        x.go(1);
        x.family(100, 0);
        x.family(200, 0);
        x.family(300, 0);
        law(x, "sum heads*10;");
        x.place();
        x.go(1);
        x.leave(0);
        x.family(900, 0);
        x.go(1);
        x.leave(2);
        x.leave(3);
        x.move(1, NONE);
        x.go(1);
        x.family(900, 0);
        int[][] numbers = {{0, 0, 0, 0, 0}, {3, 3, 0, 6, 30}, {12, 2, 1, 15, 20}, {2, 0, 13, 15, 0}};
        for (int day = 0; day < 4; day++) {
            for (int n = 0; n < 5; n++) {
                due("ended(" + day + ", " + n + ")", numbers[day][n], x.ended(day, n));
                due("check(" + day + ", " + n + ", 0)", 0, x.check(day, n, 0));
            }
        }
        due("a day that hasn't ended", NONE, x.ended(4, 0));
    }

    @Sentence("one altered by a mask (each bit of it turned): 0, if the first three are the fourth one, and the fifth is that of TOWNS; "
            + "1 if the first isn't so; 2 if the second isn't.")
    static void altered() {
        BedOffice x = new BedOffice();
        x.town(0, 0, 0);
        x.home(0, 504, 200);
        x.family(500, 0);
        x.family(300, 0);
        x.family(200, 0);
        x.leave(2);
        law(x, "sum 21;");
        x.place();
        x.go(1);
        for (int n = 0; n < 5; n++) {
            due("number " + n + ", no bit", 0, x.check(0, n, 0));
            for (int bit = 0; bit < 32; bit++) due("number " + n + ", bit " + bit, n < 4 ? 1 : 2, x.check(0, n, 1 << bit));
            for (int mask : new int[] {-1, MAX, 3, 6, 12, -2}) due("number " + n + ", mask " + mask, n < 4 ? 1 : 2, x.check(0, n, mask));
            due("nothing is altered by that", 0, x.check(0, n, 0));
        }
        due("the number stays", 21, x.ended(0, 4));
        due("none such", NONE, x.check(0, 5, 0));
        due("none such", NONE, x.check(0, -1, 0));
        due("none such", NONE, x.check(1, 0, 0));
    }

    // ---- the constants

    @Sentence("The constants: `NONE = -1`: There is none.")
    static void constants() {
        due("NONE", -1, BedOffice.NONE);
        due("none such is NONE", BedOffice.NONE, new BedOffice().told(0, 0));
    }
}
