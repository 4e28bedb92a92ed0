/** Each promise of the document by calls with the answers that are due: ordinary ones, edges and wrong ones. */
public final class PromiseTest extends Checked {
    public static void main(String[] args) {
        promise1();
        promise2town();
        promise3full();
        promise4home();
        promise5beds();
        promise6family();
        promise7wish();
        promise8apart();
        promise9record();
        promise10alike();
        promise11match();
        promise12rivals();
        promise13join();
        promise14part();
        promise15same();
        promise16seek();
        promise17finds();
        promise18kin();
        promise19mutual();
        promise20feed();
        promise21end();
        promise22fault();
        promise23sheet();
        promise24strike();
        promise25why();
        promise26rank();
        names();
        promise27lack();
        promise28bar();
        promise29place();
        promise30passed();
        promise31move();
        promise32leave();
        promise33go();
        promise34night();
        promise35lead();
        promise36beyond();
        promise37ends();
        promise38show();
        promise39best();
        promise40boat();
        promise41foretell();
        promise42worst();
        promise43beside();
        promise44check();
        promise45ended();
        promise46told();
        promise47is();
        promise48count();
        tell("PromiseTest");
    }

    // ---- 1 to 8: what is told

    private static void promise1() {
        about = "promise 1";
        BedOffice x = new BedOffice();
        for (int i = 0; i <= 12; i++) due("count(" + i + ")", 0, x.count(i));
        due("NONE", -1, BedOffice.NONE);
        due("fault()", NONE, x.fault());
        due("why(0, 0)", NONE, x.why(0, 0));
        due("place()", 0, x.place());
        BedOffice y = new BedOffice();
        y.town(1, 0, 0);
        due("count(1) of another one", 0, x.count(1));
    }

    private static void promise2town() {
        about = "promise 2";
        BedOffice x = new BedOffice();
        for (int n : FAR) {
            due("town mile " + n, NONE, x.town(n, 0, 0));
            due("town what " + n, NONE, x.town(0, n, 0));
            due("town trades " + n, NONE, x.town(0, 0, n));
        }
        due("mile -1", NONE, x.town(-1, 0, 0));
        due("mile 1000", NONE, x.town(1000, 0, 0));
        due("seats 41", NONE, x.town(0, 41, 0));
        due("seats 99", NONE, x.town(0, 199, 0));
        due("schools 16", NONE, x.town(0, 1600, 0));
        due("what -1", NONE, x.town(0, -1, 0));
        due("trades 64", NONE, x.town(0, 0, 64));
        due("trades -1", NONE, x.town(0, 0, -1));
        due("count(1)", 0, x.count(1));
        due("first", 0, x.town(999, 1540, 63));
        due("second", 1, x.town(0, 0, 0));
        for (int i = 2; i < 8; i++) due("town " + i, i, x.town(i, 100 + i, i));
        due("ninth", NONE, x.town(8, 108, 8));
        due("count(1)", 8, x.count(1));
        due("is(0, 0)", 999, x.is(0, 0));
        due("is(0, 2)", 40, x.is(0, 2));
        due("is(3, 2)", 3, x.is(3, 2));
        due("is(7, 0)", 7, x.is(7, 0));
    }

    private static void promise3full() {
        about = "promise 3";
        BedOffice x = new BedOffice();
        due("none such", false, x.full(0, true));
        x.town(0, 0, 0);
        x.town(0, 0, 0);
        for (int n : FAR) due("full(" + n + ")", false, x.full(n, true));
        due("full(-1)", false, x.full(-1, true));
        due("full(2)", false, x.full(2, true));
        due("not full yet", false, x.full(1, false));
        due("full", true, x.full(1, true));
        due("full already", false, x.full(1, true));
        due("is(1, 4)", 1, x.is(1, 4));
        due("is(0, 4)", 0, x.is(0, 4));
        due("no more", true, x.full(1, false));
        due("no more already", false, x.full(1, false));
        due("is(1, 4)", 0, x.is(1, 4));
    }

    private static void promise4home() {
        about = "promise 4";
        BedOffice x = new BedOffice();
        due("no town", NONE, x.home(0, 104, 200));
        x.town(0, 0, 0);
        for (int n : FAR) {
            due("home town " + n, NONE, x.home(n, 104, 200));
            due("home what " + n, NONE, x.home(0, n, 200));
            due("home days " + n, NONE, x.home(0, 104, n));
        }
        due("town -1", NONE, x.home(-1, 104, 200));
        due("town 1", NONE, x.home(1, 104, 200));
        due("no rooms", NONE, x.home(0, 4, 200));
        due("99", NONE, x.home(0, 99, 200));
        due("ten rooms", NONE, x.home(0, 1004, 200));
        due("stairs 2", NONE, x.home(0, 124, 200));
        due("kept 5", NONE, x.home(0, 105, 200));
        due("till 201", NONE, x.home(0, 104, 201));
        due("from above till", NONE, x.home(0, 104, 5004));
        due("from 201", NONE, x.home(0, 104, 201201));
        due("days -1", NONE, x.home(0, 104, -1));
        due("count(2)", 0, x.count(2));
        due("0", 0, x.home(0, 100, 0));
        due("1", 1, x.home(0, 914, 200200));
        due("2", 2, x.home(0, 413, 5005));
        for (int i = 3; i < 24; i++) due("home " + i, i, x.home(0, 104, 200));
        due("25th", NONE, x.home(0, 104, 200));
        due("count(2)", 24, x.count(2));
    }

    private static void promise5beds() {
        about = "promise 5";
        BedOffice x = new BedOffice();
        for (int n : FAR) due("beds(" + n + ")", false, x.beds(n));
        due("beds(-1)", false, x.beds(-1));
        due("beds(201)", false, x.beds(201));
        due("count(8)", 0, x.count(8));
        due("beds(200)", true, x.beds(200));
        due("count(8)", 200, x.count(8));
        due("beds(201)", false, x.beds(201));
        due("count(8)", 200, x.count(8));
        due("beds(0)", true, x.beds(0));
        due("beds(0) again", true, x.beds(0));
        due("count(8)", 0, x.count(8));
    }

    private static void promise6family() {
        about = "promise 6";
        BedOffice x = new BedOffice();
        for (int n : FAR) {
            due("family what " + n, NONE, x.family(n, 0));
            due("family kind " + n, NONE, x.family(100, n));
        }
        due("no heads", NONE, x.family(0, 0));
        due("99", NONE, x.family(99, 0));
        due("ten heads", NONE, x.family(1000, 0));
        due("pupils above heads", NONE, x.family(120, 0));
        due("pupils above heads", NONE, x.family(890, 0));
        due("lame 2", NONE, x.family(102, 0));
        due("tongue 4", NONE, x.family(100, 400));
        due("trade 6", NONE, x.family(100, 60));
        due("clan 6", NONE, x.family(100, 6));
        due("kind -1", NONE, x.family(100, -1));
        due("count(3)", 0, x.count(3));
        due("0", 0, x.family(991, 355));
        x.go(3);
        due("1", 1, x.family(100, 0));
        due("told(0, 4)", 0, x.told(0, 4));
        due("told(1, 4)", 3, x.told(1, 4));
        due("told(0, 3)", 9, x.told(0, 3));
        due("told(1, 0)", 0, x.told(1, 0));
        due("told(1, 1)", NONE, x.told(1, 1));
        due("told(1, 5)", NONE, x.told(1, 5));
        for (int i = 2; i < 24; i++) due("family " + i, i, x.family(110, 0));
        due("25th", NONE, x.family(100, 0));
        due("count(3)", 24, x.count(3));
        due("count(7)", 32, x.count(7));
    }

    private static void promise7wish() {
        about = "promise 7";
        BedOffice x = new BedOffice();
        due("none such", false, x.wish(0, NONE));
        x.family(100, 0);
        due("no town", false, x.wish(0, 0));
        due("no wish", true, x.wish(0, NONE));
        x.town(0, 0, 0);
        x.town(0, 0, 0);
        for (int n : FAR) {
            due("wish family " + n, false, x.wish(n, 0));
            due("wish town " + n, false, x.wish(0, n));
        }
        due("family 1", false, x.wish(1, 0));
        due("family -1", false, x.wish(-1, 0));
        due("town 2", false, x.wish(0, 2));
        due("told(0, 5)", NONE, x.told(0, 5));
        due("wish", true, x.wish(0, 1));
        due("told(0, 5)", 1, x.told(0, 5));
        due("another one", true, x.wish(0, 0));
        due("the same", true, x.wish(0, 0));
        due("told(0, 5)", 0, x.told(0, 5));
        due("none any more", true, x.wish(0, NONE));
        due("told(0, 5)", NONE, x.told(0, 5));
        x.wish(0, 1);
        x.leave(0);
        due("gone", false, x.wish(0, 0));
        due("gone", false, x.wish(0, NONE));
        due("told(0, 5)", 1, x.told(0, 5));
    }

    private static void promise8apart() {
        about = "promise 8";
        BedOffice x = new BedOffice();
        for (int n : FAR) {
            due("apart one " + n, false, x.apart(n, 0, 1));
            due("apart other " + n, false, x.apart(0, n, 1));
            due("apart miles " + n, false, x.apart(0, 1, n));
        }
        due("one -1", false, x.apart(-1, 0, 1));
        due("one 6", false, x.apart(6, 0, 1));
        due("other -1", false, x.apart(0, -1, 1));
        due("other 6", false, x.apart(0, 6, 1));
        due("both one", false, x.apart(3, 3, 1));
        due("miles -1", false, x.apart(0, 1, -1));
        due("miles 201", false, x.apart(0, 1, 201));
        due("no more, though never", true, x.apart(0, 1, 0));
        x.town(100, 0, 0);
        x.town(300, 0, 0);
        x.home(0, 104, 200);
        x.home(1, 104, 200);
        x.home(1, 104, 200);
        x.family(100, 0);
        x.family(100, 5);
        x.place();
        due("housed", 0, x.told(0, 1));
        x.move(1, NONE);
        due("far enough", true, x.apart(5, 0, 200));
        due("bar(1, 1)", 0, x.bar(1, 1));
        due("moved", NONE, x.move(0, 0));
        due("bar(0, 1)", 0, x.bar(0, 1));
        due("told otherwise, and the other way round", true, x.apart(0, 5, 1));
        x.move(0, 1);
        due("bar(1, 2)", 8, x.bar(1, 2));
        due("no more", true, x.apart(5, 0, 0));
        due("bar(1, 2)", 0, x.bar(1, 2));
    }

    // ---- 9 to 19: records and kin

    private static void promise9record() {
        about = "promise 9";
        BedOffice x = new BedOffice();
        for (int n : FAR) {
            due("record list " + n, NONE, x.record(n, 0, 0, 0, NONE));
            if (n < 0 || n > 999999) due("record name " + n, NONE, x.record(0, n, 0, 0, NONE));
            due("record born " + n, NONE, x.record(0, 0, n, 0, NONE));
            due("record seen " + n, NONE, x.record(0, 0, 0, n, NONE));
            due("record family " + n, NONE, x.record(0, 0, 0, 0, n));
        }
        due("list -1", NONE, x.record(-1, 0, 0, 0, NONE));
        due("list 3", NONE, x.record(3, 0, 0, 0, NONE));
        due("name -1", NONE, x.record(0, -1, 0, 0, NONE));
        due("name 1000000", NONE, x.record(0, 1000000, 0, 0, NONE));
        due("born -1", NONE, x.record(0, 0, -1, 0, NONE));
        due("born 121", NONE, x.record(0, 0, 121, 0, NONE));
        due("seen -1", NONE, x.record(0, 0, 0, -1, NONE));
        due("to 201", NONE, x.record(0, 0, 0, 201, NONE));
        due("from above to", NONE, x.record(0, 0, 0, 2001, NONE));
        due("no family", NONE, x.record(0, 0, 0, 0, 0));
        due("count(4)", 0, x.count(4));
        x.family(100, 0);
        x.leave(0);
        due("0, of one that is gone", 0, x.record(2, 999999, 120, 200200, 0));
        due("1", 1, x.record(0, 0, 0, 200, NONE));
        for (int i = 2; i < 60; i++) due("record " + i, i, x.record(i % 3, i, 0, 0, NONE));
        due("61st", NONE, x.record(0, 0, 0, 0, NONE));
        due("count(4)", 60, x.count(4));
    }

    private static void promise10alike() {
        about = "promise 10";
        BedOffice x = new BedOffice();
        x.record(0, 123456, 30, 0, NONE);
        x.record(1, 123456, 30, 1002, NONE);
        x.record(1, 654321, 30, 1002, NONE);
        x.record(2, 23456, 33, 2003, NONE);
        x.record(2, 0, 120, 4004, NONE);
        x.record(0, 0, 0, 5200, NONE);
        due("all alike", 6, x.alike(0, 1));
        due("the other way round", 6, x.alike(1, 0));
        due("not one digit", 0, x.alike(0, 2));
        due("five digits, three years", 2, x.alike(0, 3));
        due("a day in common", LEAST, x.alike(1, 3));
        due("a day in common", LEAST, x.alike(3, 1));
        due("one list", LEAST, x.alike(1, 2));
        due("itself", LEAST, x.alike(0, 0));
        due("below 0", -114, x.alike(4, 5));
        for (int n : FAR) {
            due("alike(" + n + ", 1)", LEAST, x.alike(n, 1));
            due("alike(1, " + n + ")", LEAST, x.alike(1, n));
        }
        due("alike(0, 6)", LEAST, x.alike(0, 6));
        due("alike(-1, 0)", LEAST, x.alike(-1, 0));
        x.record(1, 0, 0, 0, NONE);
        due("before", 6, x.alike(5, 6));
        x.record(1, 0, 0, 200, NONE);
        due("all days", LEAST, x.alike(5, 7));
        x.record(1, 0, 0, 200200, NONE);
        due("the last day", LEAST, x.alike(5, 8));
        x.record(1, 0, 0, 5, NONE);
        due("the first day", LEAST, x.alike(5, 9));
        x.record(1, 0, 0, 4, NONE);
        due("the day ahead", 6, x.alike(5, 10));
    }

    private static void promise11match() {
        about = "promise 11";
        BedOffice x = new BedOffice();
        due("none such", NONE, x.match(0));
        x.record(0, 123456, 30, 10020, NONE);
        due("alone", NONE, x.match(0));
        x.record(0, 123456, 30, 30030, NONE);
        due("one list", NONE, x.match(0));
        x.record(1, 123999, 30, 30030, NONE);
        due("three points", NONE, x.match(0));
        x.record(1, 123456, 30, 15015, NONE);
        due("barred", NONE, x.match(0));
        x.record(2, 123499, 30, 30030, NONE);
        due("four points", 4, x.match(0));
        x.record(1, 123456, 32, 31031, NONE);
        due("four points likewise, later", 4, x.match(0));
        x.record(1, 123456, 31, 31031, NONE);
        due("five points", 6, x.match(0));
        x.record(2, 123457, 30, 31031, NONE);
        due("five points likewise, later", 6, x.match(0));
        due("the least number", 0, x.match(6));
        due("join leaves it", 2, x.join(0, 6));
        due("joined ones, too", 6, x.match(0));
        for (int n : FAR) due("match(" + n + ")", NONE, x.match(n));
        due("match(-1)", NONE, x.match(-1));
        due("match(8)", NONE, x.match(8));
    }

    private static void promise12rivals() {
        about = "promise 12";
        BedOffice x = new BedOffice();
        due("none such", NONE, x.rivals(0));
        x.record(0, 111111, 30, 0, NONE);
        due("no match", NONE, x.rivals(0));
        x.record(1, 111112, 30, 1001, NONE);
        due("no other", 0, x.rivals(0));
        x.record(2, 111121, 30, 1001, NONE);
        x.record(1, 111111, 31, 0, NONE);
        x.record(0, 111113, 30, 1001, NONE);
        x.record(1, 111111, 32, 1001, NONE);
        due("one as good; barred, of its list and worse ones aside", 1, x.rivals(0));
        x.record(1, 111111, 29, 2002, NONE);
        due("two as good", 2, x.rivals(0));
        x.record(2, 111111, 30, 2002, NONE);
        due("a better one", 0, x.rivals(0));
        for (int n : FAR) due("rivals(" + n + ")", NONE, x.rivals(n));
        due("rivals(8)", NONE, x.rivals(8));
    }

    private static void promise13join() {
        about = "promise 13";
        BedOffice x = new BedOffice();
        x.record(0, 1, 1, 0, NONE);
        x.record(1, 222222, 90, 1001, NONE);
        x.record(2, 333333, 9, 2002, NONE);
        x.record(1, 1, 1, 3003, NONE);
        x.record(2, 1, 1, 3003, NONE);
        x.record(0, 1, 1, 2004, NONE);
        for (int n : FAR) {
            due("join(" + n + ", 0)", NONE, x.join(n, 0));
            due("join(0, " + n + ")", NONE, x.join(0, n));
        }
        due("join(6, 0)", NONE, x.join(6, 0));
        due("itself", NONE, x.join(0, 0));
        due("barred", NONE, x.join(3, 4));
        due("one list", NONE, x.join(1, 3));
        due("however little alike", 2, x.join(0, 1));
        due("one heap already", NONE, x.join(1, 0));
        due("two of list 1 there would be", NONE, x.join(3, 0));
        due("three", 3, x.join(2, 1));
        due("one heap already", NONE, x.join(0, 2));
        due("same(0, 2)", true, x.same(0, 2));
        x.part(0);
        due("anew", 2, x.join(1, 2));
        due("barred by another one of the heap", NONE, x.join(1, 5));
        due("same(1, 5)", false, x.same(1, 5));
        due("heap with heap", 2, x.join(0, 3));
        due("heaps with one list twice", NONE, x.join(0, 2));
        x.part(3);
        due("0 joins the heap of 1 by 2", 3, x.join(2, 0));
    }

    private static void promise14part() {
        about = "promise 14";
        BedOffice x = new BedOffice();
        due("none such", NONE, x.part(0));
        x.record(0, 1, 1, 0, NONE);
        x.record(1, 1, 1, 1001, NONE);
        x.record(2, 1, 1, 2002, NONE);
        x.record(0, 1, 1, 0, NONE);
        x.record(1, 1, 1, 1001, NONE);
        x.join(1, 0);
        x.join(2, 0);
        x.join(4, 3);
        for (int n : FAR) due("part(" + n + ")", NONE, x.part(n));
        due("part(5)", NONE, x.part(5));
        due("three", 3, x.part(0));
        due("same(0, 1)", false, x.same(0, 1));
        due("same(1, 2)", false, x.same(1, 2));
        due("same(3, 4)", true, x.same(3, 4));
        due("alone", 1, x.part(0));
        due("two", 2, x.part(4));
        due("same(3, 4)", false, x.same(3, 4));
        due("joined anew", 2, x.join(0, 4));
        due("same(0, 4)", true, x.same(0, 4));
        due("same(1, 4)", false, x.same(1, 4));
    }

    private static void promise15same() {
        about = "promise 15";
        BedOffice x = new BedOffice();
        due("none such", false, x.same(0, 0));
        x.record(0, 1, 1, 0, NONE);
        x.record(1, 1, 1, 1001, NONE);
        x.record(2, 1, 1, 2002, NONE);
        due("itself", true, x.same(1, 1));
        due("two", false, x.same(0, 1));
        x.join(0, 1);
        due("joined", true, x.same(0, 1));
        due("joined", true, x.same(1, 0));
        due("not joined", false, x.same(2, 0));
        x.join(2, 1);
        due("by way of 1", true, x.same(2, 0));
        for (int n : FAR) {
            due("same(" + n + ", 0)", false, x.same(n, 0));
            due("same(0, " + n + ")", false, x.same(0, n));
            due("same(" + n + ", " + n + ")", false, x.same(n, n));
        }
        due("same(3, 3)", false, x.same(3, 3));
    }

    private static void promise16seek() {
        about = "promise 16";
        BedOffice x = new BedOffice();
        due("none such", false, x.seek(0, 1, 1));
        x.family(100, 0);
        for (int n : FAR) {
            due("seek family " + n, false, x.seek(n, 0, 0));
            if (n < 0 || n > 999999) due("seek name " + n, false, x.seek(0, n, 0));
            due("seek born " + n, false, x.seek(0, 0, n));
        }
        due("family 1", false, x.seek(1, 0, 0));
        due("name -1", false, x.seek(0, -1, 0));
        due("name 1000000", false, x.seek(0, 1000000, 0));
        due("born -1", false, x.seek(0, 0, -1));
        due("born 121", false, x.seek(0, 0, 121));
        due("count(12)", 0, x.count(12));
        x.leave(0);
        due("one that is gone", true, x.seek(0, 999999, 120));
        for (int i = 1; i < 40; i++) due("seek " + i, true, x.seek(0, 0, 0));
        due("41st", false, x.seek(0, 0, 0));
        due("count(12)", 40, x.count(12));
    }

    private static void promise17finds() {
        about = "promise 17";
        BedOffice x = new BedOffice();
        for (int i = 0; i < 4; i++) x.family(100, 0);
        x.record(0, 123456, 30, 5, 1);
        due("nothing sought", NONE, x.finds(0, 1));
        x.seek(0, 123499, 30);
        due("four points", NONE, x.finds(0, 1));
        x.seek(0, 123458, 30);
        due("five points", 5, x.finds(0, 1));
        x.seek(0, 123456, 31);
        due("five points", 5, x.finds(0, 1));
        x.seek(0, 123456, 30);
        due("six points", 6, x.finds(0, 1));
        due("not the other way round", NONE, x.finds(1, 0));
        due("another one's", NONE, x.finds(2, 1));
        due("itself", NONE, x.finds(0, 0));
        x.seek(1, 123456, 30);
        due("itself, by its own record", NONE, x.finds(1, 1));
        for (int n : FAR) {
            due("finds(" + n + ", 1)", NONE, x.finds(n, 1));
            due("finds(0, " + n + ")", NONE, x.finds(0, n));
        }
        due("finds(0, 4)", NONE, x.finds(0, 4));
        x.record(1, 777777, 50, 6010, 2);
        due("not joined", NONE, x.finds(0, 2));
        x.join(0, 1);
        due("by a record joined to its own", 6, x.finds(0, 2));
        due("its own still", 6, x.finds(0, 1));
        x.record(2, 123450, 30, 20020, NONE);
        x.record(2, 123450, 30, 20020, 3);
        due("the greatest of the seekings", 5, x.finds(0, 3));
        x.join(2, 1);
        x.part(0);
        due("parted", NONE, x.finds(0, 2));
        due("its own still", 6, x.finds(0, 1));
        x.seek(3, 777777, 50);
        x.leave(2);
        x.leave(3);
        due("gone, and still", 6, x.finds(3, 2));
    }

    private static void promise18kin() {
        about = "promise 18";
        BedOffice x = new BedOffice();
        due("none such", NONE, x.kin(0));
        for (int i = 0; i < 24; i++) x.family(100, 0);
        due("nobody", 0, x.kin(0));
        x.record(0, 123456, 30, 0, 1);
        x.record(1, 999999, 30, 1001, 23);
        x.seek(0, 123456, 30);
        due("it finds", 2, x.kin(0));
        due("it is found", 1, x.kin(1));
        x.join(0, 1);
        due("two by one heap", 2 | 1 << 23, x.kin(0));
        due("it is found", 1, x.kin(23));
        x.record(2, 123456, 30, 2002, 0);
        due("not itself", 2 | 1 << 23, x.kin(0));
        x.seek(23, 123456, 30);
        due("it finds two", 3, x.kin(23));
        due("found by two", 1 | 1 << 23, x.kin(1));
        x.part(1);
        due("parted", 2 | 1 << 23, x.kin(0));
        due("parted", 3, x.kin(23));
        x.seek(5, 999990, 30);
        due("five points", 1 << 23, x.kin(5));
        for (int n : FAR) due("kin(" + n + ")", NONE, x.kin(n));
        due("kin(24)", NONE, x.kin(24));
        due("kin(-1)", NONE, x.kin(-1));
    }

    private static void promise19mutual() {
        about = "promise 19";
        BedOffice x = new BedOffice();
        due("none such", NONE, x.mutual(0));
        for (int i = 0; i < 3; i++) x.family(100, 0);
        for (int i = 0; i < 3; i++) x.record(i, 111111 * i, 30, 0, i);
        due("nobody", 0, x.mutual(0));
        x.seek(0, 111111, 30);
        due("one way", 0, x.mutual(0));
        due("one way", 0, x.mutual(1));
        x.seek(1, 0, 30);
        due("both ways", 2, x.mutual(0));
        due("both ways", 1, x.mutual(1));
        x.seek(2, 0, 30);
        x.seek(0, 222222, 30);
        due("two", 6, x.mutual(0));
        due("kin that aren't mutual", 1, x.mutual(2));
        x.seek(1, 222222, 30);
        due("one way", 1, x.mutual(1));
        for (int n : FAR) due("mutual(" + n + ")", NONE, x.mutual(n));
        due("mutual(3)", NONE, x.mutual(3));
    }

    // ---- 20 to 25: the text and the sheets

    private static void promise20feed() {
        about = "promise 20";
        BedOffice x = new BedOffice();
        due("20 bytes", 20, x.feed(0x61686561, 0x64203132, 0x333b2020, 0x20202020, 0x0a202020));
        due("ahead 123;", NONE, x.fault());
        due("40 bytes", 40, x.feed(-1, 0, MAX, LEAST, 5));
        due("a byte that is no token", 20, x.fault());
        due("end(20)", true, x.end(20));
        due("count(6)", 20, x.count(6));
        for (int n = 40; n <= 500; n += 20) due("feed", n, x.feed(0x20202020, 0x20202020, 0x20202020, 0x20202020, 0x20202020));
        due("more than 500", NONE, x.feed(0x21212121, 0, 0, 0, 0));
        due("count(6)", 500, x.count(6));
        due("fault()", NONE, x.fault());
        x.end(481);
        due("would be 501", NONE, x.feed(0, 0, 0, 0, 0));
        due("count(6)", 481, x.count(6));
        x.end(480);
        due("500", 500, x.feed(0, 0, 0, 0, 0));
        due("behind those that were", 480, x.fault());
    }

    private static void promise21end() {
        about = "promise 21";
        BedOffice x = new BedOffice();
        due("end(0)", true, x.end(0));
        due("end(1)", false, x.end(1));
        lay(x, "ahead 123;limit 5;");
        for (int n : FAR) due("end(" + n + ")", false, x.end(n));
        due("end(-1)", false, x.end(-1));
        due("end(19)", false, x.end(19));
        due("count(6)", 18, x.count(6));
        due("end(18)", true, x.end(18));
        due("end(10)", true, x.end(10));
        due("count(6)", 10, x.count(6));
        due("end(11)", false, x.end(11));
        due("fault()", NONE, x.fault());
        due("sheet()", 0, x.sheet());
        x.family(100, 0);
        due("the first bytes", 123, x.rank(0, 0));
        due("the limit fell away", 30, x.rank(0, 1));
    }

    private static void promise22fault() {
        about = "promise 22";
        fault("", NONE);
        fault(" \n ", NONE);
        fault("ahead heads;", NONE);
        fault("ahead\n1+2 ;\n\n show own=1;limit\n(3)", 34);
        fault("ahead 1;share 2;limit 3;sum 4;must 5=5;show 6=6;", NONE);
        fault("show 6=6;must 5=5;sum 4;limit 3;share 2;ahead 1;", NONE);
        fault("ahead 1;share 2;limit 3;sum 4;must 5=5;show 6=6; ahead 1;", 49);
        fault("ahead heads pupils;", 12);
        fault("ahead heads;ahead 1;", 12);
        fault("heads;", 0);
        fault("  heads;", 2);
        fault(";", 0);
        fault("ahead ;", 6);
        fault("ahead", 5);
        fault("ahead 1", 7);
        fault("ahead 1  \n", 10);
        fault("ahead 1;;", 8);
        fault("aheadd 1;", 0);
        fault("ahea d 1;", 0);
        fault("ahead1;", NONE);
        fault("ahead heads5;", 11);
        fault("ahead headsz;", 6);
        fault("ahead headsa;", 6);
        fault("ahead zheads;", 6);
        fault("ahead 12 3;", 9);
        fault("ahead 9;", NONE);
        fault("ahead 5heads;", 7);
        fault("ahead Heads;", 6);
        fault("ahead heads\t;", 11);
        fault("ahead heads;\r", 12);
        fault("ahead \u00e4;", 6);
        fault("ahead heads_;", 11);
        fault("x @", 0);
        fault("@ x", 0);
        fault("ahead 1 @ ahead;", 8);
        fault("ahead 99999;", NONE);
        fault("ahead 100000;", 6);
        fault("ahead 0000000000000000099999;", NONE);
        fault("ahead 1+99999999999999999999999999;", 8);
        fault("ahead 4294967297;", 6);
        fault("ahead 18446744073709551617;", 6);
        fault("ahead -1;", 6);
        fault("ahead 1-;", 8);
        fault("ahead 1--1;", 8);
        fault("ahead 1+2-3*4/5;", NONE);
        fault("ahead 1*/2;", 8);
        fault("ahead (1;", 8);
        fault("ahead (1));", 9);
        fault("ahead ();", 7);
        fault("ahead ((heads)+(2))*3;", NONE);
        fault("ahead [1];", 6);
        fault("ahead 1=1;", 7);
        fault("ahead not 1;", 6);
        fault("ahead 1 and 2;", 8);
        fault("limit ((((((((1))))))));", NONE);
        fault("limit (((((((((1)))))))));", 14);
        fault("must heads;", 10);
        fault("must heads=;", 11);
        fault("must heads=1=1;", 12);
        fault("must heads<1;", NONE);
        fault("must heads>1;", NONE);
        fault("must (heads=1);", 11);
        fault("must [heads=1];", NONE);
        fault("must [heads=1;", 13);
        fault("must [heads];", 11);
        fault("must [1]=1;", 7);
        fault("must (1)=1;", NONE);
        fault("must heads=1 and;", 16);
        fault("must heads=1 or;", 15);
        fault("must and 1=1;", 5);
        fault("must heads=1 and pupils=1 or lame=1 and not trade=1;", NONE);
        fault("must not not not 1=1;", NONE);
        fault("must not not not not not not not not 1=1;", NONE);
        fault("must not not not not not not not not not 1=1;", 37);
        fault("must [[[[[[[[1=1]]]]]]]];", NONE);
        fault("must [[[[[[[[[1=1]]]]]]]]];", 13);
        fault("must [[[[[[[[(1)=1]]]]]]]];", 13);
        fault("must [[[[[[[(1)=1]]]]]]];", NONE);
        fault("must [[[[not [[(1)=1]]]]]];", NONE);
        fault("must [[[[not [[not (1)=1]]]]]];", 19);
        fault("must [[[[[[[[not 1=1]]]]]]]];", 13);
        fault("must not [[[[[[[1=1]]]]]]] and not [[[[[[[1=1]]]]]]];", NONE);
        fault("must not ((((((((1))))))))=1;", 16);
        fault("must 1=((((((((1))))))));", NONE);
        fault("must not", 8);
        fault("must 1=1 1=1;", 9);
        fault("must 1=1)", 8);
        fault("must ]1=1;", 5);
        fault("must not 1=1 and [2=2 or 3<3];show own=1;", NONE);
        fault("share pupils+lame+tongue+trade+clan+nights+wish+kin+rooms+stairs+miles+seats+wanted+all+beds+day+own;", NONE);
        fault("share limit;", 6);
        fault("share and;", 6);
    }

    private static void promise23sheet() {
        about = "promise 23";
        BedOffice x = new BedOffice();
        lay(x, "limit 7");
        due("with a fault", NONE, x.sheet());
        due("it stays", 7, x.count(6));
        due("none came", 0, x.count(5));
        lay(x, "limit 7;");
        due("the first", 0, x.sheet());
        due("empty then", 0, x.count(6));
        due("count(5)", 1, x.count(5));
        x.family(100, 0);
        due("in force", 7, x.rank(0, 1));
        due("of no clause", 1, x.sheet());
        due("in force still", 7, x.rank(0, 1));
        for (int i = 2; i < 10; i++) due("sheet " + i, i, law(x, "ahead " + i + ";"));
        due("ahead", 9, x.rank(0, 0));
        lay(x, "ahead 10;");
        due("an eleventh", NONE, x.sheet());
        due("it stays", 9, x.count(6));
        due("count(5)", 10, x.count(5));
        due("ahead", 9, x.rank(0, 0));
    }

    private static void promise24strike() {
        about = "promise 24";
        BedOffice x = new BedOffice();
        due("none such", false, x.strike(0));
        law(x, "limit 1;");
        law(x, "limit 2;");
        for (int n : FAR) due("strike(" + n + ")", false, x.strike(n));
        due("strike(-1)", false, x.strike(-1));
        due("strike(2)", false, x.strike(2));
        x.family(100, 0);
        due("limit", 2, x.rank(0, 1));
        due("struck", true, x.strike(1));
        due("the one ahead of it", 1, x.rank(0, 1));
        due("struck already", false, x.strike(1));
        x.go(1);
        due("struck already", false, x.strike(1));
        due("struck", true, x.strike(0));
        due("none", 30, x.rank(0, 1));
        due("on that day it stays", 0, x.why(2, 0));
    }

    private static void promise25why() {
        about = "promise 25";
        BedOffice x = new BedOffice();
        due("none", NONE, x.why(2, 0));
        law(x, "limit 1;");
        x.go(2);
        law(x, "limit 2;must 1=1;");
        law(x, "ahead 3;");
        x.go(2);
        law(x, "limit 4;");
        due("limit on 0", 0, x.why(2, 0));
        due("limit on 1", 0, x.why(2, 1));
        due("limit on 2", 1, x.why(2, 2));
        due("limit on 3", 1, x.why(2, 3));
        due("limit on 4", 3, x.why(2, 4));
        due("limit on 5", NONE, x.why(2, 5));
        due("ahead on 1", NONE, x.why(0, 1));
        due("ahead on 2", 2, x.why(0, 2));
        due("must on 4", 1, x.why(4, 4));
        due("share", NONE, x.why(1, 4));
        due("sum", NONE, x.why(3, 4));
        due("show", NONE, x.why(5, 4));
        x.go(1);
        x.strike(3);
        due("struck on that day", 1, x.why(2, 5));
        due("the day ahead it stays", 3, x.why(2, 4));
        x.go(1);
        x.strike(1);
        due("struck", 0, x.why(2, 6));
        due("must on 6", NONE, x.why(4, 6));
        due("must on 5", 1, x.why(4, 5));
        for (int n : FAR) {
            due("why(" + n + ", 0)", NONE, x.why(n, 0));
            due("why(2, " + n + ")", NONE, x.why(2, n));
        }
        due("why(-1, 0)", NONE, x.why(-1, 0));
        due("why(6, 0)", NONE, x.why(6, 0));
        due("why(2, -1)", NONE, x.why(2, -1));
        due("why(2, 7)", NONE, x.why(2, 7));
    }

    // ---- 26 to 28: what the law tells

    private static void ahead(int want, String sum) {
        BedOffice x = new BedOffice();
        x.go(3);
        x.family(541, 235);
        x.family(300, 0);
        x.leave(1);
        x.family(200, 0);
        x.go(4);
        law(x, "ahead " + sum + ";");
        due("ahead " + sum, want, x.rank(0, 0));
    }

    private static void promise26rank() {
        about = "promise 26";
        ahead(5, "heads");
        ahead(4, "pupils");
        ahead(1, "lame");
        ahead(2, "tongue");
        ahead(3, "trade");
        ahead(5, "clan");
        ahead(4, "nights");
        ahead(7, "all");
        ahead(7, "day");
        ahead(0, "own");
        ahead(0, "wish+kin+rooms+stairs+miles+seats+wanted+beds");
        ahead(7, "1+2*3");
        ahead(9, "(1+2)*3");
        ahead(-4, "1-2-3");
        ahead(2, "12/3/2");
        ahead(8, "12/3*2");
        ahead(-3, "(0-7)/2");
        ahead(-3, "7/(0-2)");
        ahead(3, "(0-7)/(0-2)");
        ahead(0, "7/0");
        ahead(0, "(0-7)/(1-1)");
        ahead(1000000, "99999*99999");
        ahead(-1000000, "(0-99999)*99999");
        ahead(999999, "99999*99999-1");
        ahead(-999999, "1+(0-99999)*99999");
        ahead(1000000, "99999*10+99999");
        ahead(1000000, "(0-99999)*99999/(0-1)");
        ahead(99999, "0099999");
        BedOffice x = new BedOffice();
        due("none such", LEAST, x.rank(0, 0));
        x.family(300, 0);
        due("without any", 0, x.rank(0, 0));
        due("without any", 30, x.rank(0, 1));
        law(x, "limit heads*2;ahead 0-heads;");
        due("ahead", -3, x.rank(0, 0));
        due("limit", 6, x.rank(0, 1));
        for (int n : FAR) {
            due("rank(" + n + ", 0)", LEAST, x.rank(n, 0));
            due("rank(0, " + n + ")", LEAST, x.rank(0, n));
        }
        due("rank(0, 2)", LEAST, x.rank(0, 2));
        due("rank(0, -1)", LEAST, x.rank(0, -1));
        due("rank(1, 0)", LEAST, x.rank(1, 0));
        x.town(0, 1540, 63);
        x.home(0, 904, 200);
        x.wish(0, 0);
        x.place();
        law(x, "limit wish+kin+rooms+stairs+miles+seats+wanted+beds+own;");
        due("no home is asked for, though it has one", 0, x.rank(0, 1));
        x.leave(0);
        due("gone", -3, x.rank(0, 0));
    }

    /** Which families a must lets into a home: it holds by a NAME of the FAMILY and the HOME. */
    private static void must(BedOffice x, int family, int home, String name, int value) {
        int sheet = law(x, "must " + name + "=" + value + ";");
        due("must " + name + "=" + value + " of " + family + " and " + home, 0, x.bar(family, home));
        x.strike(sheet);
    }

    private static void names() {
        about = "promise 26 to 28, NAMES";
        for (int turn = 0; turn < 3; turn++) {
            BedOffice x = new BedOffice();
            x.town(100, 1540, 8);
            x.town(350, 720, 1);
            x.home(0, 504, 200);
            x.home(0, 314, 5100);
            x.home(1, 604, 200);
            x.home(1, 104, 200);
            x.family(421, 230);
            x.family(310, 0);
            x.family(100, 0);
            x.record(0, 500000, 5, 0, 1);
            x.record(0, 600000, 5, 0, 2);
            x.seek(0, 500000, 5);
            x.seek(0, 600000, 5);
            x.go(6);
            int kinSheet = law(x, "must rooms=5;");
            x.place();
            due("family 0 at home 0", 0, x.told(0, 1));
            x.strike(kinSheet);
            x.wish(0, 1);
            if (turn == 0) {
                must(x, 0, 2, "wish", 1);
                must(x, 0, 0, "wish", 0);
                must(x, 0, 2, "miles", 0);
                must(x, 0, 0, "miles", 250);
                must(x, 1, 1, "miles", 0);
                must(x, 0, 0, "heads", 4);
                must(x, 0, 2, "nights", 6);
            } else if (turn == 1) {
                must(x, 0, 2, "rooms", 6);
                must(x, 1, 1, "stairs", 1);
                must(x, 0, 0, "stairs", 0);
                must(x, 0, 0, "seats", 40);
                must(x, 1, 1, "seats", 38);
                must(x, 0, 0, "wanted", 1);
                must(x, 0, 2, "wanted", 0);
                must(x, 0, 0, "beds", 8);
            } else {
                must(x, 0, 2, "beds", 7);
                must(x, 0, 2, "all", 8);
                must(x, 0, 2, "day", 6);
                must(x, 0, 2, "own", 0);
                must(x, 0, 2, "kin", 0);
                must(x, 1, 1, "kin", 1);
                must(x, 1, 2, "kin", 0);
                due("the kin moves", 1, x.told(1, 0) == HALL ? 1 : 0);
            }
        }
    }

    private static final int HALL = 0;

    private static void promise27lack() {
        about = "promise 27";
        BedOffice x = new BedOffice();
        due("none such", LEAST, x.lack(0));
        x.town(0, 1510, 0);
        x.town(50, 1520, 0);
        for (int n : FAR) due("lack(" + n + ")", LEAST, x.lack(n));
        due("lack(-1)", LEAST, x.lack(-1));
        due("lack(2)", LEAST, x.lack(2));
        due("without share", 0, x.lack(0));
        x.home(0, 904, 200);
        x.home(0, 309, 200);
        x.home(0, 304, 200200);
        x.home(1, 204, 200);
        x.family(940, 0);
        x.family(200, 0);
        x.place();
        due("housed", 1, x.told(0, 0) * x.told(1, 0));
        due("heads alone", -9, x.lack(0));
        due("heads alone", -2, x.lack(1));
        law(x, "share all;");
        due("share all", 2, x.lack(0));
        law(x, "share beds;");
        due("beds, whatever their days", 12 - 9, x.lack(0));
        law(x, "share seats;");
        due("seats free of all", 10 - 4 - 9, x.lack(0));
        due("seats free of all", 20 - 2, x.lack(1));
        x.go(5);
        law(x, "share day;");
        due("share day", 5 - 9, x.lack(0));
        law(x, "share heads+pupils+lame+tongue+trade+clan+nights+wish+kin+rooms+stairs+miles+wanted+own+1;");
        due("all else is 0", 1 - 9, x.lack(0));
        law(x, "share (0-99999)*99999;");
        due("the least", -1000009, x.lack(0));
    }

    private static void promise28bar() {
        about = "promise 28";
        BedOffice x = new BedOffice();
        due("none such", NONE, x.bar(0, 0));
        x.town(100, 305, 0);
        x.town(200, 1540, 0);
        x.home(0, 410, 5010);
        x.home(1, 914, 200);
        x.family(531, 200);
        x.family(431, 301);
        x.family(430, 2);
        x.family(200, 0);
        x.family(300, 2);
        x.family(900, 3);
        due("1", 1, x.bar(0, 0));
        go(x, 4);
        due("1, the day ahead", 1, x.bar(0, 0));
        go(x, 1);
        due("3 ahead of 4, 5, 6", 3, x.bar(0, 0));
        due("4 ahead of 5, 6", 4, x.bar(1, 0));
        due("none: tongue 0, three pupils, five seats", 0, x.bar(2, 0));
        due("home 1", 0, x.bar(5, 1));
        due("lame, stairs", 4, x.bar(0, 1));
        for (int n : FAR) {
            due("bar(" + n + ", 0)", NONE, x.bar(n, 0));
            due("bar(0, " + n + ")", NONE, x.bar(0, n));
        }
        due("bar(6, 0)", NONE, x.bar(6, 0));
        due("bar(0, 2)", NONE, x.bar(0, 2));
        due("bar(0, -1)", NONE, x.bar(0, -1));
        x.full(0, true);
        due("7", 7, x.bar(3, 0));
        x.full(0, false);
        due("full no more", 0, x.bar(3, 0));
        int sheet = law(x, "must heads>2;");
        due("9", 9, x.bar(3, 0));
        due("0", 0, x.bar(4, 0));
        x.strike(sheet);
        x.apart(0, 3, 101);
        law(x, "must heads=2 or rooms=9 and heads=9;");
        x.place();
        due("3 at home 0", 0, x.told(3, 1));
        due("5 is housed, ahead of the rule on clans", NONE, x.told(5, 1));
        due("8", 8, x.bar(5, 1));
        x.apart(0, 3, 100);
        due("as far as told", 0, x.bar(5, 1));
        due("2", 2, x.bar(4, 0));
        due("its own home", 0, x.bar(3, 0));
        x.full(0, true);
        due("its own home, in a town that is full now", 7, x.bar(3, 0));
        x.full(0, false);
        go(x, 5);
        due("the last day", 2, x.bar(4, 0));
        go(x, 1);
        due("1 ahead of 2", 1, x.bar(4, 0));
        x.leave(3);
        due("gone", NONE, x.bar(3, 0));
        schools();
    }

    private static void schools() {
        BedOffice x = new BedOffice();
        x.town(0, 204, 0);
        x.home(0, 904, 200);
        x.home(0, 901, 200);
        x.home(0, 902, 200);
        x.family(430, 100);
        x.family(420, 100);
        x.family(410, 100);
        x.family(440, 200);
        x.family(400, 200);
        due("5: not its tongue", 5, x.bar(3, 0));
        due("no pupils", 0, x.bar(4, 0));
        due("kept for its tongue", 0, x.bar(4, 2));
        due("6: kept for another one", 6, x.bar(4, 1));
        due("5 ahead of 6", 5, x.bar(3, 1));
        x.full(0, true);
        due("6 ahead of 7", 6, x.bar(4, 1));
        x.full(0, false);
        law(x, "must heads=4 and pupils=3;");
        x.place();
        due("0 at home 0", 0, x.told(0, 1));
        law(x, "must 1=1;");
        due("5: one seat for two", 5, x.bar(1, 1));
        due("one seat for one", 0, x.bar(2, 1));
        due("its own pupils don't count", 0, x.bar(0, 1));
    }

    // ---- 29 to 32: placing and moving

    private static void promise29place() {
        about = "promise 29";
        BedOffice x = new BedOffice();
        due("nobody", 0, x.place());
        x.town(0, 0, 0);
        x.town(100, 0, 0);
        x.family(200, 0);
        x.family(300, 0);
        x.family(300, 0);
        due("no home", 0, x.place());
        x.home(0, 304, 200);
        due("of like ones by numbers", 1, x.place());
        due("told(0, 1)", 0, x.told(0, 1));
        x.move(0, NONE);
        law(x, "ahead heads;");
        due("the greatest ahead", 1, x.place());
        due("told(1, 1)", 0, x.told(1, 1));
        x.home(0, 904, 200);
        x.home(1, 904, 200);
        x.home(1, 904, 200);
        due("the lack of a town is greater", 2, x.place());
        due("2 to town 1, the least number", 2, x.told(2, 1));
        due("0 to town 1: lack -3 and -3, the least number", 1, x.told(0, 1));
        due("nobody in the hall", 0, x.place());
        x.family(100, 0);
        x.leave(3);
        due("gone", 0, x.place());
        wishes();
        weights(100, false, 2);
        weights(101, false, 3);
        weights(99, false, 2);
        weights(1000, true, 2);
        weights(1001, true, 3);
        weights(999, true, 2);
        negative();
        lateAsked();
    }

    private static void wishes() {
        BedOffice x = new BedOffice();
        for (int i = 0; i < 4; i++) x.town(100 * i, 0, 0);
        for (int i = 0; i < 4; i++) x.home(i, 904, 200);
        for (int i = 0; i < 3; i++) x.family(100, 0);
        x.wish(0, 3);
        due("place", 3, x.place());
        due("by its wish", 3, x.told(0, 1));
        due("the least number", 0, x.told(1, 1));
        due("the least of like ones", 1, x.told(2, 1));
        x.record(0, 5, 5, 0, 2);
        x.family(100, 0);
        x.seek(3, 5, 5);
        x.wish(3, 2);
        x.home(1, 904, 200);
        due("place", 1, x.place());
        due("kin count more than a wish", 4, x.told(3, 1));
        BedOffice y = new BedOffice();
        for (int i = 0; i < 2; i++) y.town(100 * i, 0, 0);
        y.home(0, 904, 200);
        y.home(1, 904, 200);
        y.home(0, 104, 200);
        y.family(900, 0);
        y.family(100, 0);
        y.wish(1, 0);
        law(y, "ahead heads;share 50*seats+beds*10;");
        due("place", 2, y.place());
        due("the greatest lack: 100 of town 0", 0, y.told(0, 1));
        due("a wish is 100: 91 and 100 above 90", 2, y.told(1, 1));
    }

    /** 1000 times kin, 100 times wish and lack, together: as much elsewhere, and one less and one more. */
    private static void weights(int share, boolean kin, int home) {
        BedOffice x = new BedOffice();
        x.town(0, 0, 0);
        x.town(100, 1, 0);
        x.home(0, 204, 200);
        x.home(1, 204, 200);
        x.home(0, 204, 200);
        x.home(1, 204, 200);
        x.family(100, 0);
        x.family(100, 0);
        x.family(200, 1);
        law(x, "must clan=0;");
        x.place();
        due("0 and 1 stand in two towns", 1, x.told(0, 1) + x.told(1, 1));
        law(x, "must 1=1;share seats*" + share + ";");
        if (kin) {
            x.record(0, 5, 5, 0, 2);
            x.seek(0, 5, 5);
        } else {
            x.wish(2, 0);
        }
        x.place();
        due("share " + share + " there, kin " + kin + " here", home, x.told(2, 1));
    }

    private static void negative() {
        BedOffice x = new BedOffice();
        x.town(0, 0, 0);
        x.home(0, 104, 200);
        x.family(100, 0);
        x.family(100, 1);
        law(x, "share 0-99999;ahead clan-5;");
        due("below 0", 1, x.place());
        due("the greater one", 1, x.told(1, 0));
    }

    /** All are asked ahead of the first one, and homes fill as they are given. */
    private static void lateAsked() {
        BedOffice x = new BedOffice();
        x.town(0, 1503, 0);
        for (int i = 0; i < 3; i++) x.home(0, 404, 200);
        x.family(320, 0);
        x.family(320, 0);
        x.family(310, 0);
        due("seats run out as they are placed", 2, x.place());
        due("two pupils of three", 0, x.told(0, 1));
        due("two more", NONE, x.told(1, 1));
        due("one more", 1, x.told(2, 1));
        due("is(0, 2)", 0, x.is(0, 2));
        due("is(0, 1)", 6, x.is(0, 1));
    }

    private static void promise30passed() {
        about = "promise 30";
        BedOffice x = new BedOffice();
        due("never was", NONE, x.passed(0, 0));
        x.town(0, 0, 0);
        x.home(0, 204, 200);
        x.home(0, 214, 200);
        x.family(301, 0);
        x.family(100, 0);
        x.family(201, 0);
        x.family(100, 0);
        due("never was", NONE, x.passed(0, 1));
        due("place", 2, x.place());
        due("0 by 1: too many heads", 3, x.passed(0, 1));
        due("0 by 3: too many heads", 3, x.passed(0, 3));
        due("2 by 3: stairs", 4, x.passed(2, 3));
        due("2 by 1, which came ahead", NONE, x.passed(2, 1));
        due("1 was placed", NONE, x.passed(1, 3));
        due("by one that wasn't placed", NONE, x.passed(0, 2));
        due("by itself", NONE, x.passed(0, 0));
        for (int n : FAR) {
            due("passed(" + n + ", 1)", NONE, x.passed(n, 1));
            due("passed(0, " + n + ")", NONE, x.passed(0, n));
        }
        due("passed(4, 1)", NONE, x.passed(4, 1));
        x.family(100, 0);
        due("came later", NONE, x.passed(4, 1));
        due("came later", NONE, x.passed(0, 4));
        x.move(3, NONE);
        x.leave(1);
        x.beside(law(x, "ahead heads;"));
        due("kept", 3, x.passed(0, 1));
        due("kept", 4, x.passed(2, 3));
        x.leave(3);
        x.leave(0);
        due("anew", 2, x.place());
        due("no more", NONE, x.passed(0, 1));
        due("no more", NONE, x.passed(2, 3));
        noBarThen();
    }

    /** A bar may be gone by the time the home is given: then WHY is 0. */
    private static void noBarThen() {
        BedOffice x = new BedOffice();
        x.town(0, 0, 0);
        x.home(0, 104, 200);
        x.home(0, 904, 200);
        x.family(900, 0);
        x.family(800, 0);
        x.family(100, 0);
        x.family(300, 0);
        x.record(0, 5, 5, 0, 2);
        x.seek(0, 5, 5);
        law(x, "ahead heads;must kin>0 or heads<4;");
        due("place", 2, x.place());
        due("3 at home 1", 1, x.told(3, 1));
        due("2 at home 0", 0, x.told(2, 1));
        due("0 by 3: must didn't hold then", 9, x.passed(0, 3));
        due("0 by 2: too many heads", 3, x.passed(0, 2));
        BedOffice y = new BedOffice();
        y.town(0, 0, 0);
        y.home(0, 104, 200);
        y.home(0, 904, 200);
        y.family(900, 0);
        y.family(800, 0);
        y.family(100, 0);
        y.family(200, 0);
        y.family(400, 0);
        y.record(0, 5, 5, 0, 2);
        y.seek(0, 5, 5);
        law(y, "ahead heads*heads/16*100+1/heads*50;must kin>0 or heads<3;");
        due("place", 2, y.place());
        due("2 at home 0", 0, y.told(2, 1));
        due("3 at home 1", 1, y.told(3, 1));
        due("0 by 2: too small a home", 3, y.passed(0, 2));
        due("0 by 3, as its kin was housed: no bar", 0, y.passed(0, 3));
        due("1 by 3: must", 9, y.passed(1, 3));
        due("4 by 3: must", 9, y.passed(4, 3));
        due("3 was placed", NONE, y.passed(3, 2));
    }

    private static void promise31move() {
        about = "promise 31";
        BedOffice x = new BedOffice();
        due("none such", NONE, x.move(0, NONE));
        x.town(0, 1504, 1);
        x.town(10, 1504, 0);
        x.town(20, 1504, 1);
        x.home(0, 204, 200);
        x.home(0, 204, 200);
        x.home(1, 204, 200);
        x.home(2, 204, 200);
        x.home(2, 104, 200);
        x.family(210, 0);
        due("not housed", NONE, x.move(0, 0));
        due("not housed", NONE, x.move(0, NONE));
        x.place();
        for (int n : FAR) {
            due("move(" + n + ", 1)", NONE, x.move(n, 1));
            due("move(0, " + n + ")", NONE, x.move(0, n));
        }
        due("move(0, 5)", NONE, x.move(0, 5));
        due("its own home", NONE, x.move(0, 0));
        due("a bar", NONE, x.move(0, 4));
        due("told(0, 1)", 0, x.told(0, 1));
        due("one town", 0, x.move(0, 1));
        due("told(0, 1)", 1, x.told(0, 1));
        due("school alone", 1, x.move(0, 3));
        due("is(0, 1)", 0, x.is(0, 1));
        due("is(2, 1)", 2, x.is(2, 1));
        due("is(2, 2)", 3, x.is(2, 2));
        due("school and work", 3, x.move(0, 2));
        due("school: its trade wasn't wanted", 1, x.move(0, 0));
        due("the hall", 3, x.move(0, NONE));
        due("told(0, 0)", 0, x.told(0, 0));
        due("told(0, 1)", NONE, x.told(0, 1));
        due("is(0, 1)", 0, x.is(0, 1));
        due("no more housed", NONE, x.move(0, NONE));
        due("bar(0, 0)", 0, x.bar(0, 0));
        x.leave(0);
        x.family(200, 10);
        x.place();
        due("neither", 0, x.move(1, NONE));
        x.family(200, 0);
        x.wish(2, 2);
        x.place();
        due("1 and 2 are housed", 2, x.told(1, 0) + x.told(2, 0));
        due("another one's home", NONE, x.move(2, x.told(1, 1)));
        due("work alone", 2, x.move(2, NONE));
        x.leave(1);
        due("gone", NONE, x.move(1, 0));
    }

    private static void promise32leave() {
        about = "promise 32";
        BedOffice x = new BedOffice();
        due("none such", false, x.leave(0));
        x.town(0, 1540, 0);
        x.home(0, 304, 200);
        x.family(310, 0);
        x.family(200, 0);
        for (int n : FAR) due("leave(" + n + ")", false, x.leave(n));
        due("leave(2)", false, x.leave(2));
        x.place();
        x.go(1);
        due("housed", true, x.leave(0));
        due("told(0, 0)", 2, x.told(0, 0));
        due("told(0, 1)", NONE, x.told(0, 1));
        due("told(0, 3)", 3, x.told(0, 3));
        due("is(0, 1)", 0, x.is(0, 1));
        due("is(0, 2)", 40, x.is(0, 2));
        due("free again", 0, x.bar(1, 0));
        due("it is", false, x.leave(0));
        due("count(7)", 2, x.count(7));
        due("in the hall", true, x.leave(1));
        due("count(7)", 0, x.count(7));
        due("place", 0, x.place());
        x.family(100, 0);
        law(x, "limit all;");
        due("all that aren't gone", 1, x.rank(2, 1));
        x.go(1);
        due("ended(1, 2)", 5, x.ended(1, 2));
        due("nights of one that is gone", 1, x.told(1, 2));
    }

    // ---- 33 to 37: days

    private static void promise33go() {
        about = "promise 33";
        BedOffice x = new BedOffice();
        for (int n : FAR) due("go(" + n + ")", NONE, x.go(n));
        due("go(-1)", NONE, x.go(-1));
        due("go(41)", NONE, x.go(41));
        due("go(0)", 0, x.go(0));
        due("count(0)", 0, x.count(0));
        due("go(1)", 1, x.go(1));
        due("go(40)", 41, x.go(40));
        for (int i = 0; i < 3; i++) x.go(40);
        x.family(100, 0);
        due("go(38)", 199, x.go(38));
        due("up to 200", 200, x.go(40));
        due("go(1)", 200, x.go(1));
        due("go(0)", 200, x.go(0));
        due("go(41)", NONE, x.go(41));
        due("nights", 39, x.told(0, 2));
        due("200 doesn't end", NONE, x.ended(200, 3));
        due("place on 200", 0, x.place());
        BedOffice y = new BedOffice();
        y.town(0, 1540, 0);
        y.home(0, 904, 2);
        y.home(0, 904, 200);
        y.family(110, 0);
        y.family(200, 0);
        law(y, "sum heads+10*nights;");
        y.place();
        y.go(2);
        due("housed on the last day", 1, y.told(0, 0));
        due("sums", 6, y.is(0, 3));
        y.go(1);
        due("left", 0, y.told(0, 0));
        due("left ahead of all else: a night in the hall", 1, y.told(0, 2));
        due("no sum for it", 6 + 2, y.is(0, 3));
        due("the other one stays", 1, y.told(1, 0));
        due("no more", 1, y.bar(0, 0));
        go(y, 200);
        due("till 200 is never left", 1, y.told(1, 0));
    }

    private static void promise34night() {
        about = "promise 34";
        BedOffice x = new BedOffice();
        x.town(0, 0, 0);
        x.home(0, 104, 200);
        x.home(0, 104, 200);
        x.go(1);
        x.family(200, 0);
        x.family(100, 0);
        x.place();
        x.move(1, 1);
        x.go(1);
        x.family(100, 0);
        x.move(1, 0);
        x.leave(0);
        due("not ended yet", NONE, x.night(1, 1 + 1));
        x.go(2);
        due("hadn't come", NONE, x.night(0, 0));
        due("the hall", 100, x.night(0, 1));
        due("gone", 101, x.night(0, 2));
        due("gone", 101, x.night(0, 3));
        due("home 1", 1, x.night(1, 1));
        due("home 0", 0, x.night(1, 2));
        due("hadn't come", NONE, x.night(2, 1));
        due("the hall", 100, x.night(2, 2));
        due("not ended", NONE, x.night(1, 4));
        for (int n : FAR) {
            due("night(" + n + ", 2)", NONE, x.night(n, 2));
            due("night(1, " + n + ")", NONE, x.night(1, n));
        }
        due("night(3, 2)", NONE, x.night(3, 2));
        due("night(1, -1)", NONE, x.night(1, -1));
        go(x, 200);
        due("the last", 0, x.night(1, 199));
        due("200", NONE, x.night(1, 200));
    }

    private static void promise35lead() {
        about = "promise 35";
        BedOffice x = new BedOffice();
        x.town(0, 0, 0);
        x.home(0, 104, 200);
        x.family(100, 0);
        x.go(1);
        x.family(100, 0);
        x.place();
        due("not ended", NONE, x.lead(0, 1));
        x.go(1);
        x.leave(0);
        x.place();
        x.home(0, 104, 200);
        x.go(1);
        x.move(1, 1);
        x.go(1);
        due("nobody", NONE, x.lead(0, 0));
        due("0", 0, x.lead(0, 1));
        due("1", 1, x.lead(0, 2));
        due("nobody", NONE, x.lead(0, 3));
        due("1 at home 1", 1, x.lead(1, 3));
        due("wasn't there yet", NONE, x.lead(1, 0));
        due("not ended", NONE, x.lead(0, 4));
        for (int n : FAR) {
            due("lead(" + n + ", 1)", NONE, x.lead(n, 1));
            due("lead(0, " + n + ")", NONE, x.lead(0, n));
        }
        due("lead(2, 1)", NONE, x.lead(2, 1));
        due("lead(0, -1)", NONE, x.lead(0, -1));
        due("lead(100, 0)", NONE, x.lead(100, 0));
        due("lead(101, 3)", NONE, x.lead(101, 3));
        BedOffice y = new BedOffice();
        y.town(0, 0, 0);
        y.home(0, 104, 200);
        y.go(1);
        y.family(100, 0);
        y.go(1);
        due("one that hadn't come", NONE, y.lead(0, 0));
    }

    private static void promise36beyond() {
        about = "promise 36";
        BedOffice x = new BedOffice();
        due("nobody", 0, x.beyond());
        x.family(200, 0);
        x.family(300, 0);
        go(x, 30);
        due("30 nights, 30 let", 0, x.beyond());
        x.go(1);
        due("31 nights", 2, x.beyond());
        law(x, "limit heads*11;");
        due("of each family its own", 1, x.beyond());
        x.leave(0);
        due("gone", 0, x.beyond());
        law(x, "limit 0-1;");
        x.family(100, 0);
        due("below 0", 2, x.beyond());
        x.town(0, 0, 0);
        x.home(0, 904, 200);
        x.place();
        due("housed", 1, x.beyond());
    }

    private static void promise37ends() {
        about = "promise 37";
        BedOffice x = new BedOffice();
        x.town(0, 0, 0);
        x.family(501, 0);
        due("no home", NONE, x.ends(0));
        x.home(0, 914, 200);
        due("4", 0, x.ends(0));
        x.home(0, 414, 200);
        due("3 is less than 4", 1, x.ends(0));
        x.home(0, 404, 200);
        due("3 likewise, the least number", 1, x.ends(0));
        x.home(0, 904, 5005);
        due("1", 3, x.ends(0));
        x.home(0, 904, 200);
        due("no bar", 4, x.ends(0));
        x.home(0, 904, 200);
        due("no bar likewise, the least number", 4, x.ends(0));
        for (int n : FAR) due("ends(" + n + ")", NONE, x.ends(n));
        due("ends(1)", NONE, x.ends(1));
        due("ends(-1)", NONE, x.ends(-1));
        x.place();
        due("housed", NONE, x.ends(0));
        x.move(0, NONE);
        due("in the hall, though not beyond", 4, x.ends(0));
        x.leave(0);
        due("gone", NONE, x.ends(0));
    }

    private static void promise38show() {
        about = "promise 38";
        BedOffice x = new BedOffice();
        x.town(0, 0, 0);
        x.town(0, 0, 0);
        x.family(300, 0);
        x.family(200, 0);
        x.go(2);
        x.home(1, 904, 200);
        x.place();
        due("show doesn't hold", NONE, x.show(1, 0, 2));
        due("not even to itself", NONE, x.show(0, 0, 2));
        due("to its town", 1, x.show(101, 0, 0));
        due("its town", 1, x.show(101, 0, 1));
        due("heads", 3, x.show(101, 0, 2));
        due("nights", 2, x.show(101, 0, 3));
        due("to another town", NONE, x.show(100, 0, 2));
        due("a town, of one in the hall", NONE, x.show(101, 1, 2));
        law(x, "show own=1;");
        due("to itself", 3, x.show(0, 0, 2));
        due("to others", NONE, x.show(1, 0, 2));
        due("to another town", NONE, x.show(100, 0, 2));
        due("where it is", 0, x.show(1, 1, 0));
        due("no town", NONE, x.show(1, 1, 1));
        law(x, "show heads=2 and own=0 and wish+kin+rooms+stairs+miles+seats+wanted+beds=0;");
        due("to others", 2, x.show(0, 1, 2));
        due("to a town", 2, x.show(100, 1, 2));
        due("to itself", NONE, x.show(1, 1, 2));
        law(x, "show day=2 and all=5;");
        due("nights", 2, x.show(0, 1, 3));
        for (int n : FAR) {
            due("show(" + n + ", 0, 2)", NONE, x.show(n, 0, 2));
            due("show(0, " + n + ", 2)", NONE, x.show(0, n, 2));
            due("show(0, 0, " + n + ")", NONE, x.show(0, 0, n));
        }
        due("nobody", NONE, x.show(2, 0, 2));
        due("nobody", NONE, x.show(-1, 0, 2));
        due("nobody", NONE, x.show(99, 0, 2));
        due("no such town", NONE, x.show(102, 0, 2));
        due("no such family", NONE, x.show(0, 2, 2));
        due("what -1", NONE, x.show(0, 0, -1));
        due("what 4", NONE, x.show(0, 0, 4));
        law(x, "show 1=1;");
        x.leave(0);
        due("gone", 2, x.show(1, 0, 0));
        due("no town", NONE, x.show(1, 0, 1));
        due("heads", 3, x.show(1, 0, 2));
        due("one that is gone asks", 2, x.show(0, 1, 2));
    }

    // ---- 39 to 43: looking ahead

    private static void promise39best() {
        about = "promise 39";
        BedOffice x = new BedOffice();
        due("nothing", NONE, x.best(1, 1, NONE));
        x.town(0, 1503, 0);
        x.town(900, 1540, 0);
        for (int i = 0; i < 7; i++) x.home(i % 2, 304, 200);
        for (int i = 0; i < 7; i++) x.family(300, 0);
        due("no families", NONE, x.best(0, 1, NONE));
        due("no homes", NONE, x.best(1, 0, NONE));
        due("seven families", NONE, x.best(127, 1, NONE));
        due("seven homes", NONE, x.best(1, 127, NONE));
        due("none such family", NONE, x.best(128, 1, NONE));
        due("none such home", NONE, x.best(1, 128, NONE));
        for (int n : new int[] {LEAST, -1, 1 << 30, 1 << 24}) {
            due("families " + n, NONE, x.best(n, 1, NONE));
            due("homes " + n, NONE, x.best(1, n, NONE));
        }
        for (int n : FAR) due("k " + n, NONE, x.best(1, 1, n));
        due("k 1 of one", NONE, x.best(1, 1, 1));
        due("six and six", 18, x.best(126, 63, NONE));
        for (int k = 0; k < 6; k++) due("the first way " + k, k, x.best(126, 63, k));
        due("k 6", NONE, x.best(126, 63, 6));
        due("one home for two", 3, x.best(6, 4, NONE));
        due("the first of them", 2, x.best(6, 4, 0));
        due("none for the second", NONE, x.best(6, 4, 1));
        x.leave(6);
        due("gone", NONE, x.best(64, 1, NONE));
        due("gone", NONE, x.best(65, 1, NONE));
        x.wish(0, 1);
        due("a wish", 1, x.best(3, 7, 0));
        due("a wish", 0, x.best(3, 7, 1));
        x.record(0, 5, 5, 0, 1);
        x.seek(0, 5, 5);
        due("kin and a wish: the pair goes to town 1 or 0", 1, x.best(3, 15, 0));
        due("kin", 3, x.best(3, 15, 1));
        due("kin above the wish", 0, x.best(3, 7, 0));
        due("kin above the wish", 2, x.best(3, 7, 1));
        due("one of them alone", 1, x.best(1, 7, 0));
        bestHeads();
        bestOfHoused();
        bestForThose();
    }

    private static void bestHeads() {
        BedOffice x = new BedOffice();
        x.town(0, 100, 0);
        x.town(10, 103, 0);
        x.home(0, 904, 200);
        x.home(1, 304, 200);
        x.home(0, 104, 200);
        x.family(200, 0);
        x.family(500, 0);
        x.family(320, 0);
        x.wish(0, 0);
        due("one gets none: 5 and 3", 8, x.best(7, 7, NONE));
        due("one home", 3, x.best(7, 2, NONE));
        due("heads above a wish", NONE, x.best(7, 1, 0));
        due("5", 0, x.best(7, 1, 1));
        due("heads", 8, x.best(7, 3, NONE));
        due("the lesser one gets none", NONE, x.best(7, 3, 0));
        due("seats: those given ahead count", 1, x.best(7, 3, 2));
        x.family(320, 0);
        x.home(1, 304, 200);
        due("one seat is left for two pupils", 3, x.best(12, 10, NONE));
        due("the first", 1, x.best(12, 10, 0));
        due("none", NONE, x.best(12, 10, 1));
    }

    /** What is best for later families moves the first one. */
    private static void bestForThose() {
        BedOffice x = new BedOffice();
        x.town(0, 0, 0);
        x.town(10, 0, 0);
        x.home(0, 304, 200);
        x.home(1, 304, 200);
        x.home(0, 304, 200);
        for (int i = 0; i < 3; i++) x.family(300, 0);
        for (int k = 0; k < 3; k++) due("the first way " + k, k, x.best(7, 7, k));
        x.wish(2, 1);
        int[] wished = {0, 2, 1};
        for (int k = 0; k < 3; k++) due("the wish of the last one " + k, wished[k], x.best(7, 7, k));
        x.wish(1, 0);
        x.wish(0, 1);
        for (int k = 0; k < 3; k++) due("two wishes, the first way " + k, wished[k], x.best(7, 7, k));
        x.wish(2, 0);
        int[] all = {1, 0, 2};
        for (int k = 0; k < 3; k++) due("three wishes " + k, all[k], x.best(7, 7, k));
        for (int f = 0; f < 3; f++) x.wish(f, NONE);
        x.record(0, 5, 5, 0, 1);
        x.seek(2, 5, 5);
        for (int k = 0; k < 3; k++) due("kin behind the first one " + k, all[k], x.best(7, 7, k));
        x.wish(0, 0);
        x.wish(1, 1);
        x.wish(2, 1);
        for (int k = 0; k < 3; k++) due("one pair counts more than three wishes " + k, all[k], x.best(7, 7, k));
        x.family(600, 0);
        due("heads of three homes", 9, x.best(15, 7, NONE));
        x.home(1, 904, 200);
        due("heads count more than a pair", 12, x.best(15, 11, NONE));
    }

    private static void bestOfHoused() {
        BedOffice x = new BedOffice();
        x.town(0, 0, 0);
        x.town(10, 0, 0);
        x.home(0, 204, 200);
        x.home(1, 304, 200);
        x.home(1, 304, 5005);
        x.family(200, 0);
        x.family(300, 1);
        x.family(100, 0);
        x.place();
        due("0 at home 0", 0, x.told(0, 1));
        due("1 at home 1", 1, x.told(1, 1));
        x.passed(2, 1);
        due("its home is free in thought", 2, x.best(5, 1, NONE));
        due("home 1 isn't: another one is there", NONE, x.best(5, 3, 1));
        due("all", 5, x.best(7, 3, NONE));
        due("barred by its days", 3, x.best(2, 6, NONE));
        due("barred by its days", 1, x.best(2, 6, 0));
        due("nothing is done", 0, x.told(0, 1));
        due("nothing is done", 1, x.told(1, 1));
        due("nothing is done", 0, x.told(2, 0));
        due("nothing is done", 2, x.is(0, 1));
        due("nothing is done", 3, x.is(1, 1));
        due("nothing is done", 2, x.bar(2, 0));
        x.apart(0, 1, 50);
        due("those ahead of it, as they were given", 3, x.best(7, 3, NONE));
        due("the first way: 2 and 1 heads ahead of 3", 0, x.best(7, 3, 0));
        due("apart from 0", NONE, x.best(7, 3, 1));
        due("2", 1, x.best(7, 3, 2));
        due("1 has more heads than 0", NONE, x.best(3, 3, 0));
        due("1", 1, x.best(3, 3, 1));
        due("those not asked stay housed", 0, x.best(4, 2, NONE));
    }

    private static void promise40boat() {
        about = "promise 40";
        BedOffice x = new BedOffice();
        x.go(5);
        for (int n : FAR) {
            due("boat day " + n, NONE, x.boat(n, 0, 0));
            due("boat low " + n, NONE, x.boat(5, n, 200));
            due("boat high " + n, NONE, x.boat(5, 0, n));
        }
        due("a day ahead", NONE, x.boat(4, 0, 0));
        due("201", NONE, x.boat(201, 0, 0));
        due("low -1", NONE, x.boat(5, -1, 0));
        due("low above high", NONE, x.boat(5, 3, 2));
        due("high 201", NONE, x.boat(5, 0, 201));
        due("count(10)", 0, x.count(10));
        due("1", 1, x.boat(5, 0, 0));
        due("2", 2, x.boat(200, 200, 200));
        for (int i = 3; i <= 40; i++) due("boat " + i, i, x.boat(5, 1, 2));
        due("41", NONE, x.boat(5, 1, 2));
        due("count(10)", 40, x.count(10));
        due("high", 76, x.worst(199, 0));
        due("low", 38, x.worst(199, 2));
        due("high", 276, x.worst(200, 0));
    }

    private static void promise41foretell() {
        about = "promise 41";
        BedOffice x = new BedOffice();
        x.go(5);
        for (int n : FAR) {
            due("foretell day " + n, NONE, x.foretell(n, 0));
            if (n != -2) due("foretell n " + n, NONE, x.foretell(5, n));
        }
        due("a day ahead", NONE, x.foretell(4, 0));
        due("201", NONE, x.foretell(201, 0));
        due("-101", NONE, x.foretell(5, -101));
        due("101", NONE, x.foretell(5, 101));
        due("count(11)", 0, x.count(11));
        due("1", 1, x.foretell(5, 100));
        due("2", 2, x.foretell(200, -100));
        for (int i = 3; i <= 40; i++) due("foretell " + i, i, x.foretell(6, -1));
        due("41", NONE, x.foretell(5, 1));
        due("count(11)", 40, x.count(11));
        x.boat(5, 70, 70);
        due("100 beds", 0, x.worst(5, 0));
        due("62 beds", 8, x.worst(6, 0));
        due("none", 70, x.worst(200, 0));
        due("no boats by that", 1, x.count(10));
    }

    private static void promise42worst() {
        about = "promise 42";
        BedOffice x = new BedOffice();
        due("nothing", 0, x.worst(0, 0));
        due("nothing", NONE, x.worst(0, 1));
        due("nothing", 0, x.worst(200, 2));
        x.family(500, 0);
        x.family(300, 0);
        x.leave(1);
        x.beds(10);
        due("beds enough", 0, x.worst(200, 0));
        x.boat(2, 3, 5);
        x.boat(4, 1, 4);
        x.boat(4, 0, 2);
        due("to day 3", 0, x.worst(3, 0));
        due("to day 4", 6, x.worst(4, 0));
        due("to day 200", 6, x.worst(200, 0));
        due("first", 4, x.worst(200, 1));
        due("first", NONE, x.worst(3, 1));
        due("mild", 0, x.worst(200, 2));
        x.foretell(5, 3);
        due("the greatest of all days", 6, x.worst(200, 0));
        due("first", 4, x.worst(5, 1));
        x.foretell(3, -100);
        due("no beds at all", 10, x.worst(3, 0));
        due("no beds: 16", 16, x.worst(4, 0));
        due("first", 3, x.worst(200, 1));
        due("mild", 9, x.worst(200, 2));
        x.foretell(2, 97);
        due("10 + 97 - 100", 16 - 7, x.worst(4, 0));
        for (int n : FAR) {
            due("worst(" + n + ", 0)", NONE, x.worst(n, 0));
            due("worst(4, " + n + ")", NONE, x.worst(4, n));
        }
        due("what -1", NONE, x.worst(4, -1));
        due("what 3", NONE, x.worst(4, 3));
        due("day 201", NONE, x.worst(201, 0));
        x.go(3);
        due("day 2", NONE, x.worst(2, 0));
        due("from now on", 5, x.worst(3, 0));
        due("from now on: 5 and 6 heads", 11, x.worst(200, 0));
        x.go(1);
        due("the -100 is past: 10 beds", 1, x.worst(200, 0));
        due("first", 4, x.worst(200, 1));
        x.beds(0);
        due("mild", 6, x.worst(4, 2));
        x.town(0, 0, 0);
        x.home(0, 904, 200);
        x.place();
        due("housed", 6, x.worst(4, 0));
    }

    private static void promise43beside() {
        about = "promise 43";
        BedOffice x = new BedOffice();
        due("none such", NONE, x.beside(0));
        x.town(0, 0, 0);
        x.home(0, 904, 200);
        x.home(0, 504, 200);
        x.family(200, 0);
        x.family(600, 0);
        x.family(500, 0);
        law(x, "ahead heads;");
        law(x, "must heads<6;");
        law(x, "ahead 0-heads;");
        law(x, "must 1=1;ahead 1;");
        for (int n : FAR) due("beside(" + n + ")", NONE, x.beside(n));
        due("beside(4)", NONE, x.beside(4));
        due("by heads: 6 and 5", 11, x.beside(0));
        due("none of 6", 7, x.beside(1));
        due("the least first: 2 at the first home, 5 at the other", 7, x.beside(2));
        due("by numbers: 2, then 6 can't", 7, x.beside(3));
        x.strike(3);
        x.strike(2);
        due("its own must, ahead as in force", 7, x.beside(1));
        due("its own ahead, must as in force", 7, x.beside(2));
        due("struck, and still", 7, x.beside(3));
        due("nothing is done", 13, x.count(7));
        due("nothing is done", 0, x.told(0, 0) + x.told(1, 0) + x.told(2, 0));
        due("nothing is done", 0, x.is(0, 1));
        due("nothing is done", NONE, x.passed(1, 0));
        due("nothing is done", 0, x.bar(0, 0));
        due("in force is what was", 1, x.why(4, 0));
        due("in force is what was", 0, x.why(0, 0));
        due("what is in force places", 2, x.place());
        due("5 at home 0", 0, x.told(2, 1));
        due("2 at home 1", 1, x.told(0, 1));
        due("nobody can be placed", 0, x.beside(0));
        x.move(0, NONE);
        due("6 finds no room, 2 does", 2, x.beside(0));
        due("nothing is done", 0, x.told(2, 1));
        BedOffice y = new BedOffice();
        y.town(0, 0, 0);
        y.town(500, 0, 0);
        y.home(0, 304, 200);
        y.home(1, 304, 200);
        y.family(100, 0);
        y.family(200, 1);
        y.family(300, 1);
        law(y, "share 5*seats+beds;");
        law(y, "share (beds-2)*9;must rooms=heads or heads=1;");
        y.apart(0, 1, 100);
        due("its share", 4, y.beside(1));
        due("as in force elsewhere", 4, y.beside(0));
    }

    // ---- 44 to 48: what is kept and told

    private static void promise44check() {
        about = "promise 44";
        BedOffice x = new BedOffice();
        due("not ended", NONE, x.check(0, 0, 0));
        x.town(0, 0, 0);
        x.home(0, 304, 200);
        x.family(300, 0);
        x.family(200, 0);
        x.family(100, 0);
        x.place();
        x.leave(2);
        law(x, "sum heads*7;");
        x.go(1);
        for (int number = 0; number <= 4; number++) {
            due("unaltered " + number, 0, x.check(0, number, 0));
            for (int bit = 0; bit < 32; bit++) {
                due("number " + number + " bit " + bit, number == 4 ? 2 : 1, x.check(0, number, 1 << bit));
            }
            due("all bits", number == 4 ? 2 : 1, x.check(0, number, -1));
        }
        for (int n : FAR) {
            due("check(" + n + ", 0, 0)", NONE, x.check(n, 0, 0));
            due("check(0, " + n + ", 0)", NONE, x.check(0, n, 0));
        }
        due("day -1", NONE, x.check(-1, 0, 0));
        due("day 1", NONE, x.check(1, 0, 0));
        due("number -1", NONE, x.check(0, -1, 0));
        due("number 5", NONE, x.check(0, 5, 0));
        x.leave(0);
        x.go(1);
        due("nothing is kept of it", 0, x.check(0, 4, 0));
        due("later days", 0, x.check(1, 2, 0));
        due("later days", 2, x.check(1, 4, 21));
    }

    private static void promise45ended() {
        about = "promise 45";
        BedOffice x = new BedOffice();
        due("not ended", NONE, x.ended(0, 0));
        x.go(1);
        x.town(0, 1540, 0);
        x.town(9, 1540, 0);
        x.home(0, 304, 200);
        x.home(1, 904, 1);
        x.family(300, 0);
        x.family(900, 0);
        x.family(100, 0);
        x.family(200, 0);
        x.leave(2);
        law(x, "sum heads;");
        x.place();
        x.go(1);
        x.leave(3);
        x.family(400, 0);
        x.go(1);
        int[][] want = {{0, 0, 0, 0, 0}, {11, 3, 1, 15, 3}, {13, 3, 3, 19, 3}};
        due("till 1 is left as day 1 ends", 0, x.told(1, 0));
        for (int day = 0; day < 3; day++) {
            for (int n = 0; n < 5; n++) due("ended(" + day + ", " + n + ")", want[day][n], x.ended(day, n));
        }
        for (int n : FAR) {
            due("ended(" + n + ", 0)", NONE, x.ended(n, 0));
            due("ended(0, " + n + ")", NONE, x.ended(0, n));
        }
        due("day 3", NONE, x.ended(3, 0));
        due("day -1", NONE, x.ended(-1, 0));
        due("number 5", NONE, x.ended(0, 5));
        due("number -1", NONE, x.ended(0, -1));
        go(x, 200);
        due("the last", 3, x.ended(199, 4));
        due("200", NONE, x.ended(200, 4));
    }

    private static void promise46told() {
        about = "promise 46";
        BedOffice x = new BedOffice();
        due("none such", NONE, x.told(0, 0));
        x.go(7);
        x.town(0, 1540, 0);
        x.home(0, 104, 200);
        x.home(0, 504, 200);
        x.family(400, 0);
        x.family(900, 0);
        x.go(2);
        int[] hall = {0, NONE, 2, 4, 7, NONE};
        for (int i = 0; i < 6; i++) due("told(0, " + i + ")", hall[i], x.told(0, i));
        x.wish(0, 0);
        x.place();
        x.go(3);
        int[] housed = {1, 1, 2, 4, 7, 0};
        for (int i = 0; i < 6; i++) due("told(0, " + i + ")", housed[i], x.told(0, i));
        due("nights of the other one", 5, x.told(1, 2));
        x.leave(0);
        x.go(1);
        int[] gone = {2, NONE, 2, 4, 7, 0};
        for (int i = 0; i < 6; i++) due("told(0, " + i + ")", gone[i], x.told(0, i));
        for (int n : FAR) {
            due("told(" + n + ", 0)", NONE, x.told(n, 0));
            due("told(0, " + n + ")", NONE, x.told(0, n));
        }
        due("told(2, 0)", NONE, x.told(2, 0));
        due("told(0, 6)", NONE, x.told(0, 6));
        due("told(0, -1)", NONE, x.told(0, -1));
    }

    private static void promise47is() {
        about = "promise 47";
        BedOffice x = new BedOffice();
        due("none such", NONE, x.is(0, 0));
        x.town(321, 1540, 0);
        x.town(4, 705, 0);
        x.home(0, 904, 200);
        x.home(0, 904, 200);
        x.family(930, 0);
        x.family(810, 0);
        int[] fresh = {321, 0, 40, 0, 0, 0};
        for (int i = 0; i < 6; i++) due("is(0, " + i + ")", fresh[i], x.is(0, i));
        law(x, "share 30;sum heads-9*lame;");
        x.place();
        x.go(2);
        x.full(0, true);
        int[] then = {321, 17, 36, 34, 1, 13};
        for (int i = 0; i < 6; i++) due("is(0, " + i + ")", then[i], x.is(0, i));
        int[] other = {4, 0, 5, 0, 0, 30};
        for (int i = 0; i < 6; i++) due("is(1, " + i + ")", other[i], x.is(1, i));
        law(x, "share 10;");
        due("owes nothing: 0 at least", 0, x.is(0, 5));
        due("lack", -7, x.lack(0));
        x.leave(0);
        due("sums stay", 34, x.is(0, 3));
        for (int n : FAR) {
            due("is(" + n + ", 0)", NONE, x.is(n, 0));
            due("is(0, " + n + ")", NONE, x.is(0, n));
        }
        due("is(2, 0)", NONE, x.is(2, 0));
        due("is(0, 6)", NONE, x.is(0, 6));
        due("is(0, -1)", NONE, x.is(0, -1));
        sums();
    }

    private static void sums() {
        BedOffice x = new BedOffice();
        x.town(0, 1540, 1);
        x.town(100, 1540, 0);
        x.home(0, 514, 200);
        x.home(0, 304, 200);
        x.home(1, 904, 200);
        x.family(320, 0);
        x.family(210, 0);
        x.family(900, 0);
        x.wish(0, 0);
        x.wish(1, 0);
        x.place();
        law(x, "sum wanted*10+rooms+stairs*100+(seats-35)*1000;");
        x.go(1);
        due("each with its home, and without its own pupils", 10 + 5 + 100 + 4000 + 10 + 3 + 3000, x.is(0, 3));
        due("another town", 9 + 5000, x.is(1, 3));
        law(x, "sum heads-3;");
        x.go(1);
        due("0 at least", 7128, x.is(0, 3));
        due("another town", 5009 + 6, x.is(1, 3));
        due("ended(1, 4)", 6, x.ended(1, 4));
        law(x, "sum 99999*99999;");
        x.go(1);
        due("a million", 1005015, x.is(1, 3));
        due("check", 0, x.check(2, 4, 0));
        BedOffice y = new BedOffice();
        y.town(0, 1540, 0);
        for (int i = 0; i < 24; i++) {
            y.home(0, 104, 200);
            y.family(100, 0);
        }
        due("place", 24, y.place());
        law(y, "sum 99999*99999;");
        go(y, 83);
        due("24 millions a day", 83 * 24000000, y.is(0, 3));
        due("ended(0, 4)", 24000000, y.ended(0, 4));
        y.go(1);
        due("2000000000 at most are told", 2000000000, y.is(0, 3));
        go(y, 200);
        due("2000000000 at most are told", 2000000000, y.is(0, 3));
        due("ended(199, 4)", 24000000, y.ended(199, 4));
    }

    private static void promise48count() {
        about = "promise 48";
        BedOffice x = new BedOffice();
        x.town(0, 0, 0);
        x.town(1, 0, 0);
        x.home(0, 404, 200);
        x.family(300, 0);
        x.family(900, 0);
        x.family(900, 0);
        x.family(500, 0);
        x.beds(20);
        x.record(0, 0, 0, 0, NONE);
        x.seek(0, 0, 0);
        x.seek(0, 0, 0);
        law(x, "limit 1;");
        x.boat(9, 0, 0);
        x.foretell(9, 0);
        x.foretell(9, 0);
        x.foretell(9, 0);
        lay(x, "abcdefg");
        x.go(6);
        x.place();
        int[] want = {6, 2, 1, 4, 1, 1, 7, 23, 20, 3, 1, 3, 2};
        for (int i = 0; i <= 12; i++) due("count(" + i + ")", want[i], x.count(i));
        x.leave(1);
        due("count(7)", 14, x.count(7));
        due("0 at least", 0, x.count(9));
        due("count(3)", 4, x.count(3));
        for (int n : FAR) due("count(" + n + ")", NONE, x.count(n));
        due("count(-1)", NONE, x.count(-1));
        due("count(13)", NONE, x.count(13));
    }
}
