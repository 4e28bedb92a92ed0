/** Sentences of the promises: what each call takes, what it refuses, and what it answers then. */
final class PromiseSentences extends Checked {
    private PromiseSentences() { }

    /** Two towns, three homes (the last with stairs) and two families in the hall, of two heads and of one. */
    private static BedOffice small() {
        BedOffice x = new BedOffice();
        x.town(10, 1540, 0);
        x.town(20, 1540, 0);
        x.home(0, 204, 200);
        x.home(1, 104, 200);
        x.home(1, 914, 200);
        x.family(200, 0);
        x.family(101, 1);
        return x;
    }

    /** Numbers beside those of so many that came. */
    private static int[] beside(int many) { return new int[] {LEAST, -1000000, -2, -1, many, many + 1, 100, 200, 1000, 1 << 16, MAX}; }

    // ---- 1 to 8

    @Sentence(promise = 1, value = "Nobody, no TOWNS; NOW is 0.")
    static void p01new() {
        BedOffice x = new BedOffice();
        for (int i = 0; i <= 12; i++) due("count(" + i + ")", 0, x.count(i));
        due("told(0, 0)", NONE, x.told(0, 0));
        due("is(0, 0)", NONE, x.is(0, 0));
        due("place()", 0, x.place());
        due("beyond()", 0, x.beyond());
        due("fault()", NONE, x.fault());
        BedOffice y = small();
        due("another one's families", 2, y.count(3));
        due("aren't of this one", 0, x.count(3));
    }

    @Sentence(promise = 2, value = "A TOWN: its number. What is SCHOOLS * 100 + SEATS.")
    static void p02what() {
        BedOffice x = new BedOffice();
        due("the first", 0, x.town(5, 1540, 0));
        due("the second", 1, x.town(6, 101, 0));
        due("seats of 1540", 40, x.is(0, 2));
        due("seats of 101", 1, x.is(1, 2));
        x.home(1, 904, 200);
        x.family(110, 0);
        x.family(110, 100);
        due("schools of 101: tongue 0", 0, x.bar(0, 0));
        due("not tongue 1", 5, x.bar(1, 0));
    }

    @Sentence(promise = 2, value = "NONE if MILE, SCHOOLS (0 .. 15), SEATS or TRADES (0 .. 63) can't be, or 8 came.")
    static void p02refused() {
        BedOffice x = new BedOffice();
        int[][] wrong = {{-1, 0, 0}, {1000, 0, 0}, {LEAST, 0, 0}, {MAX, 0, 0}, {0, -1, 0}, {0, -100, 0}, {0, 1600, 0}, {0, 1541, 0}, {0, 41, 0},
            {0, 99, 0}, {0, 9900, 0}, {0, LEAST, 0}, {0, MAX, 0}, {0, 0, -1}, {0, 0, 64}, {0, 0, LEAST}, {0, 0, MAX}};
        for (int[] w : wrong) due("town(" + w[0] + ", " + w[1] + ", " + w[2] + ")", NONE, x.town(w[0], w[1], w[2]));
        due("none came by that", 0, x.count(1));
        int[][] right = {{0, 0, 0}, {999, 0, 0}, {0, 1500, 0}, {0, 1540, 0}, {0, 40, 0}, {0, 0, 63}, {999, 1540, 63}, {500, 720, 31}};
        for (int i = 0; i < 8; i++) due("town " + i, i, x.town(right[i][0], right[i][1], right[i][2]));
        due("8 came", NONE, x.town(0, 0, 0));
        due("count(1)", 8, x.count(1));
    }

    @Sentence(promise = 3, value = "FULL, or no more: true; false if there is none such, or it is so already.")
    static void p03full() {
        BedOffice x = small();
        due("no more, and it wasn't", false, x.full(1, false));
        due("full", true, x.full(1, true));
        due("full already", false, x.full(1, true));
        due("it stays full", 1, x.is(1, 4));
        due("the other one isn't", 0, x.is(0, 4));
        for (int n : beside(2)) {
            due("full(" + n + ", true)", false, x.full(n, true));
            due("full(" + n + ", false)", false, x.full(n, false));
        }
        due("no more", true, x.full(1, false));
        due("no more already", false, x.full(1, false));
        due("it isn't", 0, x.is(1, 4));
    }

    @Sentence(promise = 4, value = "A HOME: its number. What is ROOMS * 100 + STAIRS * 10 + KEPT (a TONGUE; 4 for none); days are from * 1000 + till.")
    static void p04what() {
        BedOffice x = new BedOffice();
        x.town(0, 1540, 0);
        due("the first", 0, x.home(0, 302, 1002));
        due("the second", 1, x.home(0, 914, 0));
        x.family(300, 200);
        x.family(301, 200);
        x.family(300, 300);
        due("ahead of from", 1, x.bar(0, 0));
        due("no stairs", 0, x.bar(2, 1));
        due("stairs", 4, x.bar(1, 1));
        x.go(1);
        due("three rooms, from 1, kept for tongue 2", 0, x.bar(0, 0));
        due("no stairs", 0, x.bar(1, 0));
        due("kept for tongue 2", 6, x.bar(2, 0));
        due("behind till", 1, x.bar(2, 1));
        x.go(2);
        due("behind till", 1, x.bar(0, 0));
    }

    @Sentence(promise = 4, value = "NONE if there is no such TOWN, it can't be (from above till, too), or 24 came.")
    static void p04refused() {
        BedOffice x = new BedOffice();
        due("no town", NONE, x.home(0, 104, 200));
        x.town(0, 0, 0);
        for (int n : beside(1)) due("home(" + n + ", 104, 200)", NONE, x.home(n, 104, 200));
        for (int what : new int[] {LEAST, -104, -1, 0, 4, 99, 124, 105, 194, 1004, 1104, MAX}) {
            due("home(0, " + what + ", 200)", NONE, x.home(0, what, 200));
        }
        for (int days : new int[] {LEAST, -1, -1000, 201, 999, 1000, 5004, 200199, 201201, 201200, 1000200, MAX}) {
            due("home(0, 104, " + days + ")", NONE, x.home(0, 104, days));
        }
        due("none came by that", 0, x.count(2));
        int[] days = {0, 200, 200200, 5005, 5006, 199200};
        for (int i = 0; i < 24; i++) due("home " + i, i, x.home(0, 104, days[i % 6]));
        due("24 came", NONE, x.home(0, 104, 200));
    }

    @Sentence(promise = 5, value = "BEDS of THE HALL: true; false if they can't be.")
    static void p05beds() {
        BedOffice x = new BedOffice();
        for (int n : new int[] {LEAST, -1000, -1, 201, 1000, MAX}) due("beds(" + n + ")", false, x.beds(n));
        for (int n : new int[] {0, 1, 199, 200, 0, 0, 7}) {
            due("beds(" + n + ")", true, x.beds(n));
            due("count(8)", n, x.count(8));
        }
        due("beds(201)", false, x.beds(201));
        due("as they were", 7, x.count(8));
    }

    @Sentence(promise = 6, value = "A FAMILY: its number. What is HEADS * 100 + PUPILS * 10, and 1 if LAME; kind is TONGUE * 100 + TRADE * 10 + CLAN.")
    static void p06what() {
        BedOffice x = new BedOffice();
        due("the first", 0, x.family(731, 245));
        due("the second", 1, x.family(100, 0));
        law(x, "ahead heads*10000+pupils*1000+lame*100+tongue*10+trade;limit clan;");
        due("heads, pupils, lame, tongue, trade", 73124, x.rank(0, 0));
        due("clan", 5, x.rank(0, 1));
        due("of the second", 10000, x.rank(1, 0));
    }

    @Sentence(promise = 6, value = "NONE if it can't be, or 24 came.")
    static void p06refused() {
        BedOffice x = new BedOffice();
        for (int what : new int[] {LEAST, -100, -1, 0, 10, 99, 102, 109, 120, 190, 560, 990 + 2, 1000, 10000, MAX}) {
            due("family(" + what + ", 0)", NONE, x.family(what, 0));
        }
        for (int kind : new int[] {LEAST, -1, 6, 7, 8, 9, 60, 70, 80, 90, 395, 366, 400, 1000, MAX}) {
            due("family(100, " + kind + ")", NONE, x.family(100, kind));
        }
        due("none came by that", 0, x.count(3));
        int[] what = {100, 110, 101, 111, 990, 991, 550, 900};
        int[] kind = {0, 5, 50, 55, 300, 355};
        for (int i = 0; i < 24; i++) due("family " + i, i, x.family(what[i % 8], kind[i % 6]));
        due("24 came", NONE, x.family(100, 0));
    }

    @Sentence(promise = 7, value = "A WISH (NONE: none): true; false if there is no such FAMILY, or TOWN, or it is GONE.")
    static void p07wish() {
        BedOffice x = small();
        due("a wish", true, x.wish(0, 1));
        due("the same", true, x.wish(0, 1));
        for (int n : beside(2)) {
            due("wish(" + n + ", 0)", false, x.wish(n, 0));
            due("wish(" + n + ", NONE)", false, x.wish(n, NONE));
            if (n != NONE) due("wish(0, " + n + ")", false, x.wish(0, n));
        }
        due("it stays", 1, x.told(0, 5));
        due("none", true, x.wish(0, NONE));
        due("none again", true, x.wish(0, NONE));
        due("told(0, 5)", NONE, x.told(0, 5));
        x.place();
        due("one that is housed", true, x.wish(0, 0));
        x.leave(0);
        due("gone", false, x.wish(0, 1));
        due("gone", false, x.wish(0, NONE));
        due("it stays", 0, x.told(0, 5));
    }

    @Sentence(promise = 8, value = "Two CLANS are APART by so many MILES (0: no more): true; false if there are none such, both are one, or it can't be.")
    static void p08apart() {
        BedOffice x = small();
        x.place();
        due("both are housed", 2, x.told(0, 0) + x.told(1, 0));
        due("apart", true, x.apart(0, 1, 10));
        due("10 of 10 miles away", 0, x.bar(1, 1));
        due("told anew", true, x.apart(1, 0, 11));
        due("10 of 11 miles away", 8, x.bar(1, 1));
        for (int n : new int[] {LEAST, -1, 201, 1000, MAX}) due("apart(0, 1, " + n + ")", false, x.apart(0, 1, n));
        for (int n : new int[] {LEAST, -1, 6, 7, 100, MAX}) {
            due("apart(" + n + ", 1, 0)", false, x.apart(n, 1, 0));
            due("apart(0, " + n + ", 0)", false, x.apart(0, n, 0));
        }
        for (int clan = 0; clan < 6; clan++) due("apart(" + clan + ", " + clan + ", 0)", false, x.apart(clan, clan, 0));
        due("they stay apart", 8, x.bar(1, 1));
        due("no more", true, x.apart(0, 1, 0));
        due("no more again", true, x.apart(0, 1, 0));
        due("bar", 0, x.bar(1, 1));
        due("200", true, x.apart(0, 1, 200));
        due("apart of themselves", 8, x.bar(1, 1));
    }

    // ---- 9 to 19

    @Sentence(promise = 9, value = "A RECORD: its number. Seen is from * 1000 + to.")
    static void p09seen() {
        BedOffice x = new BedOffice();
        due("the first", 0, x.record(0, 5, 5, 3007, NONE));
        due("the second", 1, x.record(1, 5, 5, 2, NONE));
        x.record(1, 5, 5, 3, NONE);
        x.record(1, 5, 5, 8200, NONE);
        x.record(1, 5, 5, 7200, NONE);
        due("3 to 7, and 0 to 2", 6, x.alike(0, 1));
        due("3 to 7, and 0 to 3", LEAST, x.alike(0, 2));
        due("3 to 7, and 8 to 200", 6, x.alike(0, 3));
        due("3 to 7, and 7 to 200", LEAST, x.alike(0, 4));
    }

    @Sentence(promise = 9, value = "NONE if LIST, NAME (0 .. 999999), BORN or days can't be, FAMILY is none such (NONE: none), or 60 came.")
    static void p09refused() {
        BedOffice x = small();
        for (int n : new int[] {LEAST, -1, 3, 4, MAX}) due("list " + n, NONE, x.record(n, 0, 0, 0, NONE));
        for (int n : new int[] {LEAST, -1, 1000000, MAX}) due("name " + n, NONE, x.record(0, n, 0, 0, NONE));
        for (int n : new int[] {LEAST, -1, 121, MAX}) due("born " + n, NONE, x.record(0, 0, n, 0, NONE));
        for (int n : new int[] {LEAST, -1, 201, 999, 1000, 4003, 200199, 201201, MAX}) due("seen " + n, NONE, x.record(0, 0, 0, n, NONE));
        for (int n : beside(2)) if (n != NONE) due("family " + n, NONE, x.record(0, 0, 0, 0, n));
        due("none came by that", 0, x.count(4));
        int[][] right = {{0, 0, 0, 0, NONE}, {2, 999999, 120, 200200, 1}, {1, 5, 5, 200, 0}};
        for (int i = 0; i < 60; i++) {
            int[] r = right[i % 3];
            due("record " + i, i, x.record(r[0], r[1], r[2], r[3], r[4]));
        }
        due("60 came", NONE, x.record(0, 0, 0, 0, NONE));
        BedOffice y = small();
        y.leave(1);
        due("of a family that is gone", 0, y.record(0, 0, 0, 0, 1));
    }

    @Sentence(promise = 10, value = "By how many points two RECORDS are ALIKE (may be below 0); -2147483648 if there are none such, of one LIST, or BARRED.")
    static void p10alike() {
        BedOffice x = new BedOffice();
        due("none such", LEAST, x.alike(0, 0));
        x.record(0, 111111, 0, 0, NONE);
        x.record(1, 111111, 6, 1001, NONE);
        x.record(1, 222222, 120, 1001, NONE);
        x.record(2, 111111, 0, 1, NONE);
        x.record(0, 111111, 0, 5005, NONE);
        due("0 points", 0, x.alike(0, 1));
        due("below 0", -120, x.alike(0, 2));
        due("below 0", -120, x.alike(2, 0));
        due("of one list", LEAST, x.alike(0, 4));
        due("itself", LEAST, x.alike(0, 0));
        due("barred", LEAST, x.alike(0, 3));
        for (int n : beside(5)) {
            due("alike(" + n + ", 1)", LEAST, x.alike(n, 1));
            due("alike(1, " + n + ")", LEAST, x.alike(1, n));
            due("alike(" + n + ", " + n + ")", LEAST, x.alike(n, n));
        }
    }

    @Sentence(promise = 11, value = "MATCH of a RECORD; NONE if there is none.")
    static void p11match() {
        BedOffice x = new BedOffice();
        due("no such record", NONE, x.match(0));
        x.record(0, 123456, 5, 0, NONE);
        due("alone", NONE, x.match(0));
        x.record(1, 123999, 5, 1001, NONE);
        due("three points", NONE, x.match(0));
        due("of that one", NONE, x.match(1));
        x.record(2, 123499, 5, 1001, NONE);
        due("four points", 2, x.match(0));
        due("of that one", 0, x.match(2));
        x.join(0, 2);
        due("joined to it already", 2, x.match(0));
        for (int n : beside(3)) due("match(" + n + ")", NONE, x.match(n));
    }

    @Sentence(promise = 12, value = "How many RIVALS its MATCH has; NONE likewise.")
    static void p12rivals() {
        BedOffice x = new BedOffice();
        due("no such record", NONE, x.rivals(0));
        x.record(0, 123456, 5, 0, NONE);
        x.record(1, 123999, 5, 1001, NONE);
        due("no match", NONE, x.rivals(0));
        x.record(2, 123499, 5, 1001, NONE);
        due("a match, no rival", 0, x.rivals(0));
        x.record(1, 123477, 5, 1001, NONE);
        due("a rival", 1, x.rivals(0));
        x.join(0, 3);
        due("joined to it already", 1, x.rivals(0));
        for (int n : beside(4)) due("rivals(" + n + ")", NONE, x.rivals(n));
    }

    @Sentence(promise = 13, value = "JOINED: how many are of the heap; NONE if there are none such, it is one heap already, two of one LIST would be, "
            + "or two that are BARRED.")
    static void p13join() {
        BedOffice x = new BedOffice();
        due("none such", NONE, x.join(0, 0));
        x.record(0, 1, 1, 0, NONE);
        x.record(1, 1, 1, 1001, NONE);
        x.record(2, 1, 1, 2002, NONE);
        x.record(1, 1, 1, 3003, NONE);
        x.record(2, 1, 1, 1, NONE);
        for (int n : beside(5)) {
            due("join(" + n + ", 1)", NONE, x.join(n, 1));
            due("join(1, " + n + ")", NONE, x.join(1, n));
            due("join(" + n + ", " + n + ")", NONE, x.join(n, n));
        }
        due("itself", NONE, x.join(1, 1));
        due("of one list", NONE, x.join(1, 3));
        due("barred", NONE, x.join(0, 4));
        due("two", 2, x.join(0, 1));
        due("one heap already", NONE, x.join(0, 1));
        due("one heap already", NONE, x.join(1, 0));
        due("two of list 1", NONE, x.join(0, 3));
        due("two barred, 0 and 4", NONE, x.join(1, 4));
        due("three", 3, x.join(2, 0));
        due("one heap already", NONE, x.join(2, 1));
        due("two others", 2, x.join(3, 4));
        due("heaps of like lists", NONE, x.join(4, 2));
    }

    @Sentence(promise = 14, value = "PARTED: how many were of the heap; NONE if there is none such.")
    static void p14part() {
        BedOffice x = new BedOffice();
        due("none such", NONE, x.part(0));
        for (int i = 0; i < 3; i++) x.record(i, 1, 1, 1001 * i, NONE);
        due("one alone", 1, x.part(0));
        x.join(0, 1);
        x.join(1, 2);
        for (int n : beside(3)) due("part(" + n + ")", NONE, x.part(n));
        due("they are joined still", true, x.same(0, 2));
        due("three", 3, x.part(1));
        due("they aren't", false, x.same(0, 2));
        due("one alone", 1, x.part(1));
    }

    @Sentence(promise = 15, value = "Whether two RECORDS are of one heap; false if there are none such.")
    static void p15same() {
        BedOffice x = new BedOffice();
        due("none such", false, x.same(0, 0));
        for (int i = 0; i < 3; i++) x.record(i, 1, 1, 1001 * i, NONE);
        due("itself", true, x.same(2, 2));
        due("two heaps", false, x.same(0, 2));
        x.join(2, 0);
        due("one heap", true, x.same(0, 2));
        due("one heap", true, x.same(2, 0));
        due("two heaps", false, x.same(0, 1));
        for (int n : beside(3)) {
            due("same(" + n + ", 0)", false, x.same(n, 0));
            due("same(0, " + n + ")", false, x.same(0, n));
            due("same(" + n + ", " + n + ")", false, x.same(n, n));
        }
    }

    @Sentence(promise = 16, value = "A FAMILY SEEKS: true; false if there is none such, NAME or BORN can't be, or 40 are told.")
    static void p16seek() {
        BedOffice x = small();
        for (int n : beside(2)) due("seek(" + n + ", 0, 0)", false, x.seek(n, 0, 0));
        for (int n : new int[] {LEAST, -1, 1000000, MAX}) due("seek(0, " + n + ", 0)", false, x.seek(0, n, 0));
        for (int n : new int[] {LEAST, -1, 121, MAX}) due("seek(0, 0, " + n + ")", false, x.seek(0, 0, n));
        due("none are told by that", 0, x.count(12));
        int[][] right = {{0, 0, 0}, {1, 999999, 120}, {0, 999999, 0}, {1, 0, 120}};
        for (int i = 0; i < 40; i++) due("seeking " + i, true, x.seek(right[i % 4][0], right[i % 4][1], right[i % 4][2]));
        due("40 are told", false, x.seek(0, 0, 0));
        due("count(12)", 40, x.count(12));
        BedOffice y = small();
        y.leave(0);
        due("a family that is gone", true, y.seek(0, 111111, 5));
        y.record(0, 111111, 5, 0, 1);
        due("it finds still", 6, y.finds(0, 1));
    }

    @Sentence(promise = 17, value = "HOW SURELY a FAMILY finds another one; NONE if it doesn't, or there are none such, or both are one.")
    static void p17finds() {
        BedOffice x = small();
        x.seek(0, 111111, 5);
        x.record(0, 111222, 5, 0, 1);
        due("it doesn't: three points", NONE, x.finds(0, 1));
        x.record(0, 111112, 5, 0, 1);
        due("five points", 5, x.finds(0, 1));
        due("not the other way round", NONE, x.finds(1, 0));
        x.record(0, 111111, 5, 0, 0);
        due("both are one", NONE, x.finds(0, 0));
        due("five points still", 5, x.finds(0, 1));
        x.record(0, 111111, 5, 0, 1);
        due("six points", 6, x.finds(0, 1));
        for (int n : beside(2)) {
            due("finds(" + n + ", 1)", NONE, x.finds(n, 1));
            due("finds(0, " + n + ")", NONE, x.finds(0, n));
            due("finds(" + n + ", " + n + ")", NONE, x.finds(n, n));
        }
    }

    @Sentence(promise = 18, value = "KIN of a FAMILY (bits); NONE if there is none such.")
    static void p18kin() {
        BedOffice x = small();
        due("nobody", 0, x.kin(0));
        x.seek(1, 111111, 5);
        x.record(0, 111111, 5, 0, 0);
        due("family 1", 2, x.kin(0));
        due("family 0", 1, x.kin(1));
        x.leave(0);
        due("family 1, of one that is gone", 2, x.kin(0));
        due("family 0, that is gone", 1, x.kin(1));
        for (int n : beside(2)) due("kin(" + n + ")", NONE, x.kin(n));
    }

    @Sentence(promise = 19, value = "Those MUTUAL (bits); NONE likewise.")
    static void p19mutual() {
        BedOffice x = small();
        x.seek(1, 111111, 5);
        x.record(0, 111111, 5, 0, 0);
        due("one way", 0, x.mutual(0));
        x.seek(0, 222222, 5);
        x.record(0, 222222, 5, 0, 1);
        due("both ways", 2, x.mutual(0));
        due("both ways", 1, x.mutual(1));
        x.leave(1);
        due("with one that is gone", 2, x.mutual(0));
        due("of one that is gone", 1, x.mutual(1));
        for (int n : beside(2)) due("mutual(" + n + ")", NONE, x.mutual(n));
    }

    // ---- 20 to 28

    @Sentence(promise = 20, value = "Bytes come behind those of the TEXT, of each number the highest first (20 of them): how many there are; "
            + "NONE if there would be more than 500.")
    static void p20feed() {
        BedOffice x = new BedOffice();
        x.family(100, 0);
        // "ahead 12345;" and blanks.
        due("20", 20, x.feed(0x61686561, 0x64203132, 0x3334353b, 0x20202020, 0x20202020));
        due("40", 40, x.feed(0x6c696d69, 0x74203637, 0x3b202020, 0x0a0a0a0a, 0x20202020));
        due("no fault", NONE, x.fault());
        due("sheet()", 0, x.sheet());
        due("ahead", 12345, x.rank(0, 0));
        due("limit", 67, x.rank(0, 1));
        due("bytes above 127", 20, x.feed(0x20202020, 0x2020ff20, -1, LEAST, 0));
        due("at the seventh", 6, x.fault());
        x.end(0);
        for (int n = 20; n <= 500; n += 20) due("feed", n, x.feed(0x20202020, 0x20202020, 0x20202020, 0x20202020, 0x20202020));
        due("there would be 520", NONE, x.feed(0x3b3b3b3b, 0, 0, 0, 0));
        due("they stay", NONE, x.fault());
        due("count(6)", 500, x.count(6));
        x.end(481);
        due("there would be 501", NONE, x.feed(0x3b3b3b3b, 0, 0, 0, 0));
        due("count(6)", 481, x.count(6));
        x.end(480);
        due("500", 500, x.feed(0x3b3b3b3b, 0, 0, 0, 0));
        due("behind those", 480, x.fault());
    }

    @Sentence(promise = 21, value = "The TEXT has its first n bytes alone: true; false if it has not so many, or n is below 0.")
    static void p21end() {
        BedOffice x = new BedOffice();
        due("of nothing, nothing", true, x.end(0));
        due("of nothing, one", false, x.end(1));
        lay(x, "ahead 12;limit 3;");
        due("all of it", true, x.end(17));
        due("one more", false, x.end(18));
        due("more than a text can have", false, x.end(501));
        due("below 0", false, x.end(-1));
        for (int n : FAR) due("end(" + n + ")", false, x.end(n));
        due("count(6)", 17, x.count(6));
        due("the first seven", true, x.end(7));
        due("ahead 1", 7, x.fault());
        due("what was behind is gone", false, x.end(8));
        x.feed(0x3b202020, 0x20202020, 0x20202020, 0x20202020, 0x20202020);
        due("what comes stands behind those", NONE, x.fault());
        x.family(100, 0);
        x.sheet();
        due("ahead 1;", 1, x.rank(0, 0));
        due("no limit", 30, x.rank(0, 1));
        due("of an empty text", false, x.end(1));
    }

    @Sentence(promise = 22, value = "The FAULT of the TEXT.")
    static void p22fault() {
        BedOffice x = new BedOffice();
        due("none", NONE, x.fault());
        lay(x, "ahead 1");
        due("too early", 7, x.fault());
        due("the same again", 7, x.fault());
        x.feed(0x2b3b2020, 0x20202020, 0x20202020, 0x20202020, 0x20202020);
        due("ahead 1+;", 8, x.fault());
        due("nothing is done to the text", 27, x.count(6));
        x.end(0);
        due("none", NONE, x.fault());
    }

    @Sentence(promise = 23, value = "A SHEET comes of the TEXT, which is empty then: its number; NONE with a FAULT (it stays), or if 10 came.")
    static void p23sheet() {
        BedOffice x = new BedOffice();
        x.family(100, 0);
        lay(x, "limit 4");
        due("with a fault", NONE, x.sheet());
        due("the text stays", 7, x.count(6));
        due("no sheet came", 0, x.count(5));
        x.feed(0x3b202020, 0x20202020, 0x20202020, 0x20202020, 0x20202020);
        due("without", 0, x.sheet());
        due("the text is empty", 0, x.count(6));
        due("limit", 4, x.rank(0, 1));
        for (int i = 1; i < 10; i++) due("of an empty text", i, x.sheet());
        due("limit", 4, x.rank(0, 1));
        due("10 came", NONE, x.sheet());
        lay(x, "limit 5;");
        due("10 came", NONE, x.sheet());
        due("the text stays", 8, x.count(6));
        due("limit", 4, x.rank(0, 1));
        due("count(5)", 10, x.count(5));
    }

    @Sentence(promise = 24, value = "STRUCK: true; false if there is no such SHEET, or it is.")
    static void p24strike() {
        BedOffice x = new BedOffice();
        due("no sheet", false, x.strike(0));
        law(x, "limit 4;");
        law(x, "limit 5;");
        for (int n : beside(2)) due("strike(" + n + ")", false, x.strike(n));
        due("in force", 1, x.why(2, 0));
        due("struck", true, x.strike(1));
        due("it is", false, x.strike(1));
        due("the other one", 0, x.why(2, 0));
        x.go(3);
        due("it is", false, x.strike(1));
        due("struck", true, x.strike(0));
        due("the day on which it was struck first", NONE, x.why(2, 3));
        due("the day ahead", 0, x.why(2, 2));
    }

    @Sentence(promise = 25, value = "The SHEET by which a CLAUSE (0 ahead, 1 share, 2 limit, 3 sum, 4 must, 5 show) counts on a DAY (0 .. NOW); "
            + "NONE if none, or none such.")
    static void p25why() {
        BedOffice x = new BedOffice();
        String[] texts = {"show 1=1;", "must 1=1;", "sum 1;", "limit 1;", "share 1;", "ahead 1;"};
        for (String text : texts) law(x, text);
        for (int clause = 0; clause < 6; clause++) due("why(" + clause + ", 0)", 5 - clause, x.why(clause, 0));
        x.go(5);
        for (int clause = 0; clause < 6; clause++) {
            due("NOW", 5 - clause, x.why(clause, 5));
            due("a day ahead", NONE, x.why(clause, 6));
            due("day -1", NONE, x.why(clause, -1));
            for (int n : FAR) due("why(" + clause + ", " + n + ")", NONE, x.why(clause, n));
        }
        for (int n : new int[] {LEAST, -1, 6, 7, MAX}) due("why(" + n + ", 0)", NONE, x.why(n, 0));
        x.strike(5);
        due("none", NONE, x.why(0, 5));
        go(x, 195);
        due("on 200", 4, x.why(1, 200));
        due("on 201", NONE, x.why(1, 201));
    }

    @Sentence(promise = 26, value = "What ahead (0) or limit (1) tells of a FAMILY NOW; -2147483648 for others, or if there is none such.")
    static void p26rank() {
        BedOffice x = small();
        due("without", 0, x.rank(0, 0));
        due("without", 30, x.rank(0, 1));
        law(x, "ahead heads*10+day;limit 0-nights;");
        x.go(2);
        due("ahead", 22, x.rank(0, 0));
        due("ahead", 12, x.rank(1, 0));
        due("limit", -2, x.rank(1, 1));
        x.leave(1);
        x.go(1);
        due("ahead of one that is gone", 13, x.rank(1, 0));
        due("limit of one that is gone", -2, x.rank(1, 1));
        for (int what : new int[] {LEAST, -1, 2, 3, MAX}) due("rank(0, " + what + ")", LEAST, x.rank(0, what));
        for (int n : beside(2)) {
            due("rank(" + n + ", 0)", LEAST, x.rank(n, 0));
            due("rank(" + n + ", 1)", LEAST, x.rank(n, 1));
        }
    }

    @Sentence(promise = 27, value = "LACK of a TOWN; -2147483648 if there is none such.")
    static void p27lack() {
        BedOffice x = small();
        due("no share, no heads", 0, x.lack(0));
        x.place();
        due("two heads", -2, x.lack(0));
        law(x, "share 99999*99999;");
        due("the most", 999998, x.lack(0));
        law(x, "share (0-99999)*99999;");
        due("the least", -1000002, x.lack(0));
        for (int n : beside(2)) due("lack(" + n + ")", LEAST, x.lack(n));
        due("no towns", LEAST, new BedOffice().lack(0));
    }

    @Sentence(promise = 28, value = "The BAR of a FAMILY for a HOME; NONE if there are none such, or it is GONE.")
    static void p28bar() {
        BedOffice x = small();
        due("none", 0, x.bar(0, 0));
        due("3", 3, x.bar(0, 1));
        due("4", 4, x.bar(1, 2));
        for (int n : beside(2)) due("bar(" + n + ", 0)", NONE, x.bar(n, 0));
        for (int n : beside(3)) due("bar(0, " + n + ")", NONE, x.bar(0, n));
        x.leave(0);
        due("gone", NONE, x.bar(0, 0));
        due("gone", NONE, x.bar(0, 1));
    }

    // ---- 29 to 38

    @Sentence(promise = 29, value = "PLACED: how many FAMILIES.")
    static void p29place() {
        BedOffice x = new BedOffice();
        due("nobody", 0, x.place());
        x = small();
        due("two", 2, x.place());
        due("nobody is left", 0, x.place());
        x.family(900, 0);
        x.family(300, 0);
        due("one of nine rooms, by numbers", 1, x.place());
        due("the first", 2, x.told(2, 1));
        due("no home for the other", 0, x.told(3, 0));
    }

    @Sentence(promise = 30, value = "WHY a FAMILY was PASSED by another one as place() was asked last; NONE if it wasn't, it never was, or there are none such.")
    static void p30passed() {
        BedOffice x = small();
        law(x, "ahead heads;");
        x.family(901, 0);
        for (int f = 0; f < 3; f++) {
            for (int g = 0; g < 3; g++) due("never asked, passed(" + f + ", " + g + ")", NONE, x.passed(f, g));
        }
        due("place()", 2, x.place());
        due("2 by 0", 3, x.passed(2, 0));
        due("2 by 1", 3, x.passed(2, 1));
        for (int f = 0; f < 3; f++) {
            for (int g = 0; g < 3; g++) if (f != 2 || g == 2) due("passed(" + f + ", " + g + ")", NONE, x.passed(f, g));
        }
        x.family(900, 0);
        for (int n : new int[] {LEAST, -2, -1, 3, 4, 24, 100, MAX}) {
            due("passed(2, " + n + ")", NONE, x.passed(2, n));
            due("passed(" + n + ", 0)", NONE, x.passed(n, 0));
            due("passed(" + n + ", " + n + ")", NONE, x.passed(n, n));
        }
        due("asked last", 1, x.place());
        due("by one that came later: stairs", 4, x.passed(2, 3));
        due("not this time", NONE, x.passed(2, 0));
    }

    @Sentence(promise = 31, value = "A MOVE to a HOME (NONE: to THE HALL): what it BREAKS (1 school, 2 work; bits); NONE if there is no such FAMILY HOUSED, "
            + "no such other HOME, or it has a BAR.")
    static void p31move() {
        BedOffice x = new BedOffice();
        x.town(0, 1540, 1);
        x.town(0, 1540, 0);
        x.home(0, 104, 200);
        x.home(1, 104, 200);
        x.home(1, 104, 200);
        x.home(1, 101, 200);
        x.family(110, 0);
        x.family(110, 10);
        due("in the hall", NONE, x.move(0, 0));
        due("in the hall", NONE, x.move(0, NONE));
        x.place();
        for (int n : beside(2)) {
            due("move(" + n + ", 2)", NONE, x.move(n, 2));
            due("move(" + n + ", NONE)", NONE, x.move(n, NONE));
        }
        for (int n : beside(4)) if (n != NONE) due("move(0, " + n + ")", NONE, x.move(0, n));
        due("its own", NONE, x.move(0, 0));
        due("another one is there", NONE, x.move(0, 1));
        due("kept", NONE, x.move(0, 3));
        due("where it was", 0, x.told(0, 1));
        due("school and work", 3, x.move(0, 2));
        due("its own", NONE, x.move(1, 1));
        due("school", 1, x.move(0, 0));
        due("in one town", 0, x.move(1, 2));
        due("to the hall: school and work", 3, x.move(0, NONE));
        due("to the hall: school", 1, x.move(1, NONE));
        x.place();
        x.leave(1);
        due("gone", NONE, x.move(1, 2));
        due("gone", NONE, x.move(1, NONE));
    }

    @Sentence(promise = 32, value = "GONE: true; false if there is none such, or it is.")
    static void p32leave() {
        BedOffice x = small();
        for (int n : beside(2)) due("leave(" + n + ")", false, x.leave(n));
        due("in the hall", true, x.leave(0));
        due("it is", false, x.leave(0));
        x.place();
        due("housed", true, x.leave(1));
        due("it is", false, x.leave(1));
        due("nobody is housed", 0, x.is(0, 1) + x.is(1, 1));
        due("nobody in the hall", 0, x.count(7));
        x.go(1);
        due("it is", false, x.leave(1));
        due("all that came are gone", 3, x.ended(0, 2));
    }

    @Sentence(promise = 33, value = "n DAYS end (0 .. 40; up to 200): NOW; NONE for another n.")
    static void p33go() {
        BedOffice x = new BedOffice();
        for (int n : new int[] {LEAST, -40, -1, 41, 42, 200, MAX}) due("go(" + n + ")", NONE, x.go(n));
        due("go(0)", 0, x.go(0));
        due("go(40)", 40, x.go(40));
        due("go(1)", 41, x.go(1));
        go(x, 120);
        due("go(38)", 199, x.go(38));
        due("go(0)", 199, x.go(0));
        due("go(40), up to 200", 200, x.go(40));
        due("go(1)", 200, x.go(1));
        due("go(41)", NONE, x.go(41));
        due("count(0)", 200, x.count(0));
    }

    @Sentence(promise = 34, value = "Where a FAMILY was as a DAY ended: its HOME, 100 THE HALL, 101 GONE; NONE if it hadn't come, the DAY didn't end, "
            + "or there is none such.")
    static void p34night() {
        BedOffice x = small();
        due("the day didn't end", NONE, x.night(0, 0));
        x.place();
        x.go(1);
        x.family(900, 0);
        x.leave(1);
        x.go(1);
        due("its home", 0, x.night(0, 0));
        due("its home", 1, x.night(1, 0));
        due("gone", 101, x.night(1, 1));
        due("hadn't come", NONE, x.night(2, 0));
        due("the hall, on the day on which it came", 100, x.night(2, 1));
        due("the day didn't end", NONE, x.night(2, 2));
        for (int n : FAR) due("night(0, " + n + ")", NONE, x.night(0, n));
        due("night(0, -1)", NONE, x.night(0, -1));
        for (int n : beside(3)) due("night(" + n + ", 1)", NONE, x.night(n, 1));
        go(x, 198);
        due("the last day", 0, x.night(0, 199));
        due("200", NONE, x.night(0, 200));
    }

    @Sentence(promise = 35, value = "The FAMILY that was HOUSED in a HOME as a DAY ended; NONE if none, or likewise.")
    static void p35lead() {
        BedOffice x = small();
        due("the day didn't end", NONE, x.lead(0, 0));
        x.place();
        x.go(1);
        x.leave(0);
        x.family(100, 0);
        x.place();
        x.go(1);
        due("family 0", 0, x.lead(0, 0));
        due("family 1", 1, x.lead(1, 0));
        due("nobody", NONE, x.lead(2, 0));
        due("another one, on the day on which it came", 2, x.lead(0, 1));
        due("the day didn't end", NONE, x.lead(0, 2));
        due("day -1", NONE, x.lead(0, -1));
        for (int n : FAR) due("lead(0, " + n + ")", NONE, x.lead(0, n));
        for (int n : beside(3)) due("lead(" + n + ", 0)", NONE, x.lead(n, 0));
        due("home 101", NONE, x.lead(101, 1));
        go(x, 198);
        due("the last day", 1, x.lead(1, 199));
        due("200", NONE, x.lead(1, 200));
    }

    @Sentence(promise = 36, value = "How many FAMILIES are BEYOND.")
    static void p36beyond() {
        BedOffice x = new BedOffice();
        due("nobody", 0, x.beyond());
        x = small();
        due("nobody", 0, x.beyond());
        law(x, "limit heads;");
        x.go(1);
        due("1 night of 2, 1 of 1", 0, x.beyond());
        x.go(1);
        due("2 nights of 2, 2 of 1", 1, x.beyond());
        x.go(1);
        due("both", 2, x.beyond());
    }

    @Sentence(promise = 37, value = "The HOME that would END it for a FAMILY IN THE HALL; NONE if there is none such, or no HOME.")
    static void p37ends() {
        BedOffice x = new BedOffice();
        x.family(100, 0);
        due("no home", NONE, x.ends(0));
        x = small();
        due("home 0", 0, x.ends(0));
        for (int n : beside(2)) due("ends(" + n + ")", NONE, x.ends(n));
        x.place();
        due("housed", NONE, x.ends(0));
        x.leave(1);
        due("gone", NONE, x.ends(1));
        x.family(901, 0);
        due("2 ahead of 3 and 4", 0, x.ends(2));
    }

    @Sentence(promise = 38, value = "SHOWN to who asks.")
    static void p38show() {
        BedOffice x = small();
        law(x, "show own=1 or heads=1;");
        due("itself", 2, x.show(0, 0, 2));
        due("another one", NONE, x.show(1, 0, 2));
        due("another one", 1, x.show(0, 1, 2));
        due("a town", 1, x.show(101, 1, 2));
        due("no such town", NONE, x.show(102, 1, 2));
        due("no such family", NONE, x.show(2, 1, 2));
    }

    // ---- 39 to 48

    @Sentence(promise = 39, value = "BEST: HEADS (k NONE), or the HOME of the k-th of these FAMILIES (from 0 on; NONE: none); NONE if it can't be asked, "
            + "or there is none such.")
    static void p39best() {
        BedOffice x = small();
        due("heads", 3, x.best(3, 7, NONE));
        due("the first", 0, x.best(3, 7, 0));
        due("the second", 1, x.best(3, 7, 1));
        due("no third", NONE, x.best(3, 7, 2));
        due("the first of one", 0, x.best(2, 7, 0));
        due("no second of one", NONE, x.best(2, 7, 1));
        due("none can be housed: no heads", 0, x.best(2, 4, NONE));
        due("none", NONE, x.best(2, 4, 0));
        for (int k : new int[] {LEAST, -2, 6, 32, MAX}) due("k " + k, NONE, x.best(3, 7, k));
        for (int bits : new int[] {LEAST, -1, 0, 4, 5, 1 << 24, 1 << 30, MAX}) due("families " + bits, NONE, x.best(bits, 7, NONE));
        for (int bits : new int[] {LEAST, -1, 0, 8, 9, 1 << 24, 1 << 30, MAX}) due("homes " + bits, NONE, x.best(3, bits, NONE));
        x.leave(1);
        due("one of them is gone", NONE, x.best(3, 7, NONE));
        due("the other one", 2, x.best(1, 7, NONE));
        due("nobody at all", NONE, new BedOffice().best(1, 1, NONE));
    }

    @Sentence(promise = 40, value = "FORETOLD boats: how many tellings; NONE if the DAY isn't NOW .. 200, low is below 0 or above high, high above 200, or 40 were.")
    static void p40boat() {
        BedOffice x = new BedOffice();
        x.go(3);
        due("the day ahead", NONE, x.boat(2, 1, 1));
        due("NOW", 1, x.boat(3, 1, 1));
        due("200", 2, x.boat(200, 1, 1));
        for (int day : new int[] {LEAST, -1, 0, 201, 1000, MAX}) due("day " + day, NONE, x.boat(day, 1, 1));
        for (int low : new int[] {LEAST, -1, 2, MAX}) due("low " + low, NONE, x.boat(3, low, 1));
        for (int high : new int[] {201, 1000, MAX}) due("high " + high, NONE, x.boat(3, 1, high));
        due("low and high below 0", NONE, x.boat(3, -2, -1));
        due("count(10)", 2, x.count(10));
        due("0 and 0", 3, x.boat(3, 0, 0));
        due("0 and 200", 4, x.boat(3, 0, 200));
        due("200 and 200", 5, x.boat(3, 200, 200));
        for (int i = 6; i <= 40; i++) due("boat " + i, i, x.boat(4, 0, 1));
        due("40 were", NONE, x.boat(4, 0, 1));
        due("count(10)", 40, x.count(10));
        due("heads of all", 1 + 200 + 200 + 35 + 1, x.worst(200, 0));
    }

    @Sentence(promise = 41, value = "FORETOLD BEDS: likewise, n isn't -100 .. 100.")
    static void p41foretell() {
        BedOffice x = new BedOffice();
        x.boat(3, 200, 200);
        x.boat(3, 200, 200);
        x.go(3);
        due("the day ahead", NONE, x.foretell(2, 1));
        due("NOW", 1, x.foretell(3, 1));
        due("200", 2, x.foretell(200, 1));
        for (int day : new int[] {LEAST, -1, 0, 201, 1000, MAX}) due("day " + day, NONE, x.foretell(day, 1));
        for (int n : new int[] {LEAST, -1000, -101, 101, 1000, MAX}) due("n " + n, NONE, x.foretell(3, n));
        due("count(11)", 2, x.count(11));
        due("100", 3, x.foretell(3, 100));
        due("-100", 4, x.foretell(5, -100));
        due("0", 5, x.foretell(3, 0));
        for (int i = 6; i <= 40; i++) due("beds " + i, i, x.foretell(4, 2));
        due("40 were", NONE, x.foretell(4, 2));
        due("count(11)", 40, x.count(11));
        due("no boats by that", 2, x.count(10));
        due("101 beds", 299, x.worst(3, 0));
        due("70 more, 100 fewer", 329, x.worst(200, 0));
        x.foretell(3, 1);
        x.go(1);
        x.boat(4, 200, 200);
        due("70 beds from NOW on", 130, x.worst(4, 0));
        due("none as 100 fall away", 200, x.worst(5, 0));
    }

    @Sentence(promise = 42, value = "To a DAY (NOW .. 200): WORST (what 0), FIRST (1; NONE), MILD (2); NONE for others, or another DAY.")
    static void p42worst() {
        BedOffice x = small();
        x.go(4);
        x.boat(6, 1, 2);
        x.beds(3);
        due("FIRST to NOW", NONE, x.worst(4, 1));
        due("WORST to NOW", 0, x.worst(4, 0));
        due("WORST", 2, x.worst(200, 0));
        due("FIRST", 6, x.worst(200, 1));
        due("MILD", 1, x.worst(200, 2));
        for (int what : new int[] {LEAST, -1, 3, 4, MAX}) due("worst(200, " + what + ")", NONE, x.worst(200, what));
        for (int day : new int[] {LEAST, -1, 0, 3, 201, 1000, MAX}) {
            for (int what = 0; what < 3; what++) due("worst(" + day + ", " + what + ")", NONE, x.worst(day, what));
        }
        go(x, 196);
        due("on 200", 0, x.worst(200, 0));
        due("on 200, to 199", NONE, x.worst(199, 0));
    }

    @Sentence(promise = 43, value = "BESIDE; NONE if there is no such SHEET.")
    static void p43beside() {
        BedOffice x = small();
        due("no sheet", NONE, x.beside(0));
        law(x, "must heads=1;");
        law(x, "");
        due("one head", 1, x.beside(0));
        due("of no clauses, as in force", 1, x.beside(1));
        for (int n : beside(2)) due("beside(" + n + ")", NONE, x.beside(n));
        x.strike(0);
        due("of no clauses, none in force", 3, x.beside(1));
        due("place()", 2, x.place());
        due("nobody can be placed", 0, x.beside(1));
    }

    @Sentence(promise = 44, value = "CHECKED: 0 .. 2; NONE if there is no such DAY that ended, or number.")
    static void p44check() {
        BedOffice x = small();
        due("the day didn't end", NONE, x.check(0, 0, 0));
        x.go(2);
        due("0", 0, x.check(1, 0, 0));
        due("1", 1, x.check(1, 0, 1));
        due("2", 2, x.check(1, 4, 1));
        due("the day didn't end", NONE, x.check(2, 0, 0));
        due("day -1", NONE, x.check(-1, 0, 0));
        for (int n : FAR) due("check(" + n + ", 0, 0)", NONE, x.check(n, 0, 0));
        for (int n : new int[] {LEAST, -1, 5, 6, MAX}) due("check(0, " + n + ", 0)", NONE, x.check(0, n, 0));
        go(x, 198);
        due("the last day", 0, x.check(199, 0, 0));
        due("200", NONE, x.check(200, 0, 0));
    }

    @Sentence(promise = 45, value = "A number of a DAY that ended; NONE likewise.")
    static void p45ended() {
        BedOffice x = small();
        due("the day didn't end", NONE, x.ended(0, 0));
        x.go(2);
        due("in the hall", 3, x.ended(1, 0));
        due("all that came", 3, x.ended(1, 3));
        due("sums", 0, x.ended(1, 4));
        due("the day didn't end", NONE, x.ended(2, 0));
        due("day -1", NONE, x.ended(-1, 0));
        for (int n : FAR) due("ended(" + n + ", 0)", NONE, x.ended(n, 0));
        for (int n : new int[] {LEAST, -1, 5, 6, MAX}) due("ended(0, " + n + ")", NONE, x.ended(0, n));
        go(x, 198);
        due("the last day", 3, x.ended(199, 0));
        due("200", NONE, x.ended(200, 0));
    }

    @Sentence(promise = 46, value = "Of a FAMILY: 0 how it is, 1 its HOME (NONE), 2 NIGHTS, 3 HEADS, 4 the DAY on which it came, 5 its WISH (NONE). "
            + "NONE for others, or if there is none such.")
    static void p46told() {
        BedOffice x = small();
        x.go(3);
        x.family(900, 0);
        x.wish(2, 1);
        x.go(1);
        int[] hall = {0, NONE, 1, 9, 3, 1};
        for (int i = 0; i < 6; i++) due("told(2, " + i + ")", hall[i], x.told(2, i));
        x.leave(0);
        x.leave(1);
        x.place();
        x.wish(2, NONE);
        int[] housed = {1, 2, 1, 9, 3, NONE};
        for (int i = 0; i < 6; i++) due("told(2, " + i + ")", housed[i], x.told(2, i));
        x.leave(2);
        int[] gone = {2, NONE, 1, 9, 3, NONE};
        for (int i = 0; i < 6; i++) due("told(2, " + i + ")", gone[i], x.told(2, i));
        for (int what : new int[] {LEAST, -1, 6, 7, MAX}) due("told(2, " + what + ")", NONE, x.told(2, what));
        for (int n : beside(3)) {
            for (int i = 0; i < 6; i++) due("told(" + n + ", " + i + ")", NONE, x.told(n, i));
        }
    }

    @Sentence(promise = 47, value = "Of a TOWN: 0 its MILE, 1 HEADS HOUSED there, 2 SEATS free, 3 sums that it got (2000000000 at most are told), "
            + "4 whether FULL, 5 what it owes yet: share less HEADS, 0 at least.")
    static void p47is() {
        BedOffice x = new BedOffice();
        x.town(7, 1540, 0);
        for (int i = 0; i < 24; i++) {
            x.home(0, 104, 200);
            x.family(110, 0);
        }
        x.place();
        law(x, "sum 99999*99999;share 25;");
        x.full(0, true);
        go(x, 83);
        int[] then = {7, 24, 16, 83 * 24000000, 1, 1};
        for (int i = 0; i < 6; i++) due("is(0, " + i + ")", then[i], x.is(0, i));
        law(x, "sum 1000*1000/3;share 24;");
        due("24 of 24", 0, x.is(0, 5));
        x.go(1);
        due("24 times 333333 more", 1999999992, x.is(0, 3));
        law(x, "sum 1;share 23;");
        due("24 of 23: 0 at least", 0, x.is(0, 5));
        for (int f = 8; f < 24; f++) x.leave(f);
        x.go(1);
        due("2000000000", 2000000000, x.is(0, 3));
        x.go(1);
        due("at most are told", 2000000000, x.is(0, 3));
        law(x, "sum 99999*99999;");
        go(x, 200);
        due("at most are told, to the end", 2000000000, x.is(0, 3));
        due("owes 15", 15, x.is(0, 5));
        due("seats free", 32, x.is(0, 2));
    }

    @Sentence(promise = 47, value = "NONE for others, or if there is none such.")
    static void p47refused() {
        BedOffice x = small();
        for (int what : new int[] {LEAST, -1, 6, 7, MAX}) due("is(0, " + what + ")", NONE, x.is(0, what));
        for (int n : beside(2)) {
            for (int i = 0; i < 6; i++) due("is(" + n + ", " + i + ")", NONE, x.is(n, i));
        }
    }

    @Sentence(promise = 48, value = "0 NOW, 1 TOWNS, 2 HOMES, 3 FAMILIES, 4 RECORDS, 5 SHEETS, 6 bytes of the TEXT, 7 HEADS IN THE HALL, 8 BEDS, "
            + "9 HEADS in it above BEDS (0 at least), 10 tellings of boats, 11 of BEDS, 12 seekings. NONE for others.")
    static void p48count() {
        BedOffice x = small();
        x.family(400, 0);
        x.family(500, 0);
        for (int i = 0; i < 5; i++) x.record(0, 0, 0, 0, NONE);
        for (int i = 0; i < 6; i++) x.sheet();
        lay(x, "limit 7;");
        x.beds(11);
        for (int i = 0; i < 9; i++) x.boat(50, 0, 0);
        for (int i = 0; i < 10; i++) x.foretell(50, 0);
        for (int i = 0; i < 12; i++) x.seek(0, 0, 0);
        x.go(13);
        int[] want = {13, 2, 3, 4, 5, 6, 8, 12, 11, 1, 9, 10, 12};
        for (int i = 0; i < 13; i++) due("count(" + i + ")", want[i], x.count(i));
        x.beds(12);
        due("as many as beds", 0, x.count(9));
        x.beds(13);
        due("0 at least", 0, x.count(9));
        x.place();
        due("three are housed", 5, x.count(7));
        x.leave(3);
        due("the other one is gone", 0, x.count(7));
        for (int what : new int[] {LEAST, -1, 13, 14, MAX}) due("count(" + what + ")", NONE, x.count(what));
    }
}
