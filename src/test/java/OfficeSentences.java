/** Sentences of the document's terms, part 4: bars, placing, moves, the end of a day, and who is beyond what the law lets. */
final class OfficeSentences extends Checked {
    private OfficeSentences() { }

    // ---- bars

    @Sentence("A BAR of a FAMILY for a HOME on NOW, the first of these:")
    static void barsInTheirOrder() {
        BedOffice x = new BedOffice();
        x.town(100, 0, 0);
        x.town(150, 210, 0);
        x.home(0, 410, 1001);
        x.home(0, 410, 200);
        x.home(0, 410, 200);
        x.home(0, 910, 200);
        x.home(0, 900, 200);
        x.home(1, 900, 200);
        x.home(1, 904, 200);
        x.family(100, 3);
        x.place();
        due("the other one is housed", 1, x.told(0, 1));
        // Lame, five heads, two pupils in tongue 1: whatever can bar it does, as far as the home lets it.
        x.family(521, 100);
        x.apart(0, 3, 60);
        x.full(0, true);
        x.full(1, true);
        law(x, "must 1=2;");
        for (int h = 0; h <= 6; h++) due("bar(1, " + h + ")", h + 1, x.bar(1, h));
        x.full(1, false);
        due("not full", 8, x.bar(1, 6));
        x.apart(0, 3, 50);
        due("not apart", 9, x.bar(1, 6));
        x.strike(0);
        due("must holds", 0, x.bar(1, 6));
    }

    @Sentence("1 NOW isn't from .. till;")
    static void barOfDays() {
        BedOffice x = new BedOffice();
        x.town(0, 0, 0);
        x.home(0, 104, 2003);
        x.home(0, 104, 0);
        x.family(100, 0);
        due("two days ahead", 1, x.bar(0, 0));
        due("the only day", 0, x.bar(0, 1));
        x.go(1);
        due("a day ahead", 1, x.bar(0, 0));
        due("a day late", 1, x.bar(0, 1));
        x.go(1);
        due("from", 0, x.bar(0, 0));
        x.go(1);
        due("till", 0, x.bar(0, 0));
        x.go(1);
        due("a day late", 1, x.bar(0, 0));
    }

    @Sentence("2 another one is HOUSED there;")
    static void barOfLodgers() {
        BedOffice x = new BedOffice();
        x.town(0, 0, 0);
        x.home(0, 104, 200);
        x.family(100, 0);
        x.family(100, 0);
        x.place();
        due("another one", 2, x.bar(1, 0));
        due("itself", 0, x.bar(0, 0));
        x.move(0, NONE);
        due("it is free", 0, x.bar(1, 0));
        x.place();
        x.leave(0);
        due("it is free", 0, x.bar(1, 0));
    }

    @Sentence("3 HEADS above ROOMS;")
    static void barOfRooms() {
        for (int rooms = 1; rooms <= 9; rooms++) {
            BedOffice x = new BedOffice();
            x.town(0, 0, 0);
            x.home(0, rooms * 100 + 4, 200);
            for (int heads = 1; heads <= 9; heads++) {
                x.family(heads * 100, 0);
                due(heads + " heads, " + rooms + " rooms", heads > rooms ? 3 : 0, x.bar(heads - 1, 0));
            }
        }
    }

    @Sentence("4 STAIRS, and LAME;")
    static void barOfStairs() {
        BedOffice x = new BedOffice();
        x.town(0, 0, 0);
        x.home(0, 104, 200);
        x.home(0, 114, 200);
        x.family(100, 0);
        x.family(101, 0);
        due("neither", 0, x.bar(0, 0));
        due("stairs alone", 0, x.bar(0, 1));
        due("lame alone", 0, x.bar(1, 0));
        due("both", 4, x.bar(1, 1));
    }

    @Sentence("5 PUPILS, and the TOWN doesn't teach in the TONGUE, or has fewer SEATS free;")
    static void barOfSchools() {
        BedOffice x = new BedOffice();
        x.town(0, 203, 0);
        x.town(0, 0, 0);
        for (int i = 0; i < 3; i++) x.home(0, 904, 200);
        x.home(1, 904, 200);
        x.family(930, 100);
        x.family(940, 100);
        x.family(910, 0);
        x.family(900, 0);
        x.family(910, 100);
        due("three seats for three", 0, x.bar(0, 0));
        due("three seats for four", 5, x.bar(1, 0));
        due("a pupil of another tongue", 5, x.bar(2, 0));
        due("no pupils, another tongue", 0, x.bar(3, 0));
        due("no pupils, no school at all", 0, x.bar(3, 3));
        due("a pupil, no school at all", 5, x.bar(4, 3));
        x.place();
        due("three pupils are housed", 0, x.told(0, 1));
        due("no seats for one", 5, x.bar(4, 2));
        due("no pupils", 0, x.bar(3, 2));
        due("for those that have them", 0, x.bar(0, 0));
    }

    @Sentence("6 it is KEPT for another TONGUE;")
    static void barOfTongues() {
        BedOffice x = new BedOffice();
        x.town(0, 0, 0);
        x.home(0, 103, 200);
        x.home(0, 104, 200);
        x.home(0, 100, 200);
        for (int tongue = 0; tongue <= 3; tongue++) {
            x.family(100, tongue * 100);
            due("kept for 3, tongue " + tongue, tongue == 3 ? 0 : 6, x.bar(tongue, 0));
            due("kept for none, tongue " + tongue, 0, x.bar(tongue, 1));
            due("kept for 0, tongue " + tongue, tongue == 0 ? 0 : 6, x.bar(tongue, 2));
        }
    }

    @Sentence("7 the TOWN says that it is FULL;")
    static void barOfFull() {
        BedOffice x = new BedOffice();
        x.town(0, 0, 0);
        x.town(0, 0, 0);
        x.home(0, 104, 200);
        x.home(1, 104, 200);
        x.family(100, 0);
        x.place();
        x.full(0, true);
        due("full, though it is housed there", 7, x.bar(0, 0));
        due("another town", 0, x.bar(0, 1));
        x.full(0, false);
        due("full no more", 0, x.bar(0, 0));
    }

    @Sentence("8 a FAMILY of a CLAN APART from its own is HOUSED in a TOWN fewer MILES away than told;")
    static void barOfClans() {
        BedOffice x = new BedOffice();
        x.town(500, 0, 0);
        x.town(440, 0, 0);
        x.town(560, 0, 0);
        x.home(0, 104, 200);
        x.family(100, 2);
        x.apart(5, 2, 60);
        for (int t = 0; t < 3; t++) x.home(t, 104, 200);
        x.family(100, 5);
        x.family(100, 2);
        x.family(100, 1);
        due("in the hall: no bar", 0, x.bar(1, 1));
        law(x, "ahead 0-day;must clan=2;");
        x.place();
        x.move(2, NONE);
        x.strike(0);
        due("one of clan 2 is housed", 0, x.told(0, 1));
        due("in one town", 8, x.bar(1, 1));
        due("60 miles away, one way", 0, x.bar(1, 2));
        due("60 miles away, the other way", 0, x.bar(1, 3));
        x.apart(2, 5, 61);
        due("60 of 61 miles away, one way", 8, x.bar(1, 2));
        due("60 of 61 miles away, the other way", 8, x.bar(1, 3));
        due("its own clan", 0, x.bar(2, 1));
        due("a clan that isn't apart", 0, x.bar(3, 1));
        due("itself", 0, x.bar(0, 0));
        x.apart(2, 5, 0);
        due("apart no more", 0, x.bar(1, 1));
        x.apart(2, 5, 200);
        x.leave(0);
        due("gone: no bar", 0, x.bar(1, 1));
    }

    @Sentence("9 must doesn't hold.")
    static void barOfMust() {
        BedOffice x = new BedOffice();
        x.town(0, 0, 0);
        x.home(0, 304, 200);
        x.family(200, 0);
        x.family(300, 0);
        due("no must", 0, x.bar(0, 0));
        law(x, "must heads=rooms;");
        due("2 heads", 9, x.bar(0, 0));
        due("3 heads", 0, x.bar(1, 0));
        law(x, "ahead 1;");
        due("a later sheet without must", 9, x.bar(0, 0));
        law(x, "must not heads=rooms;");
        due("2 heads", 0, x.bar(0, 0));
        due("3 heads", 9, x.bar(1, 0));
    }

    @Sentence("(SEATS free: SEATS less PUPILS of others HOUSED in the TOWN, for share and is() of all.) 0: none.")
    static void seatsFree() {
        BedOffice x = new BedOffice();
        x.town(0, 1509, 0);
        x.town(0, 1509, 0);
        for (int i = 0; i < 3; i++) x.home(i / 2, 904, 200);
        x.family(950, 0);
        x.family(940, 0);
        due("is(0, 2) at first", 9, x.is(0, 2));
        x.wish(0, 0);
        x.wish(1, 0);
        x.place();
        due("none left", 0, x.is(0, 2));
        due("the other town's", 9, x.is(1, 2));
        due("five for five, its own aside", 0, x.bar(0, 0));
        law(x, "share seats*100;");
        due("share: of all", 0 - 18, x.lack(0));
        law(x, "must seats=5;");
        due("of others: 9 less 4", 0, x.bar(0, 0));
        law(x, "must seats=4;");
        due("of others: 9 less 5", 0, x.bar(1, 1));
        x.move(1, NONE);
        due("in the hall: no seats taken", 4, x.is(0, 2));
    }

    // ---- placing

    @Sentence("PLACED are FAMILIES IN THE HALL on NOW, by ahead (the greatest first; of like ones by numbers; all asked ahead of the first one)")
    static void line() {
        String[] laws = {"ahead heads;", "ahead 0-heads;", "ahead 7;", "ahead trade;", "ahead trade*99999-99999*99999;",
            "ahead (trade-2)*99999*99999;"};
        int[][] orders = {{3, 1, 0, 2}, {2, 0, 1, 3}, {0, 1, 2, 3}, {2, 1, 3, 0}, {2, 1, 3, 0}, {2, 1, 0, 3}};
        for (int i = 0; i < laws.length; i++) {
            BedOffice x = new BedOffice();
            x.town(0, 0, 0);
            x.family(300, 0);
            x.family(400, 20);
            x.family(200, 50);
            x.family(900, 10);
            law(x, laws[i]);
            for (int turn = 0; turn < 4; turn++) {
                x.home(0, 904, 200);
                due("one home, place()", 1, x.place());
                due(laws[i] + " turn " + turn, turn, x.told(orders[i][turn], 1));
            }
            x.home(0, 904, 200);
            due("nobody is left in the hall", 0, x.place());
            x.leave(3);
            due("nor is one that is gone", 0, x.place());
            x.move(0, NONE);
            due("one is again", 1, x.place());
        }
    }

    @Sentence("each to a HOME without a BAR then:")
    static void barsAsTheyFall() {
        BedOffice x = new BedOffice();
        x.town(0, 1503, 0);
        x.town(10, 0, 0);
        for (int i = 0; i < 4; i++) x.home(0, 304, 200);
        x.family(320, 0);
        x.family(320, 0);
        x.family(310, 1);
        x.family(300, 2);
        x.family(300, 3);
        x.apart(2, 3, 1);
        due("three of five", 3, x.place());
        due("two pupils for three seats", 0, x.told(0, 1));
        due("two more pupils", NONE, x.told(1, 1));
        due("one more pupil", 1, x.told(2, 1));
        due("no pupils", 2, x.told(3, 1));
        due("apart from the one that was placed ahead of it", NONE, x.told(4, 1));
        due("its bar", 8, x.bar(4, 3));
        x.home(1, 304, 200);
        due("in the other town", 1, x.place());
        due("home 4", 4, x.told(4, 1));
    }

    /** What one family chooses: a home in the town of so many kin and its wish, or one in a town of so much share. */
    private static void chooses(int kin, int wish, int more, boolean shareAhead) {
        BedOffice x = new BedOffice();
        x.town(0, 0, 0);
        x.town(0, 1, 0);
        for (int i = 0; i < kin; i++) {
            x.home(0, 104, 200);
            x.family(100, 0);
            x.record(0, 111111 * (i + 1), 50, 0, i);
        }
        due("the kin are housed", kin, x.place());
        x.family(100, 0);
        for (int i = 0; i < kin; i++) x.seek(kin, 111111 * (i + 1), 50);
        if (wish == 1) x.wish(kin, 0);
        x.home(shareAhead ? 1 : 0, 104, 200);
        x.home(shareAhead ? 0 : 1, 104, 200);
        int worth = 1000 * kin + 100 * wish - kin;
        law(x, "share seats*(" + (worth + more + 1) + "-1);");
        due("place()", 1, x.place());
        boolean there = more > 0 || more == 0 && shareAhead;
        int home = kin + (there == shareAhead ? 0 : 1);
        due(kin + " kin, wish " + wish + ", share " + (worth + more) + " elsewhere", home, x.told(kin, 1));
    }

    @Sentence("the one with the greatest 1000 times kin, 100 times wish and LACK of its TOWN, together, of like ones the least number.")
    static void choices() {
        for (int kin = 0; kin <= 3; kin++) {
            for (int wish = 0; wish <= 1; wish++) {
                for (int more = -1; more <= 1; more++) {
                    chooses(kin, wish, more, false);
                    chooses(kin, wish, more, true);
                }
            }
        }
        BedOffice x = new BedOffice();
        for (int t = 0; t < 3; t++) x.town(t, t, 0);
        for (int h = 0; h < 6; h++) x.home(h % 3, 104, 200);
        for (int f = 0; f < 6; f++) x.family(100, 0);
        law(x, "share 0-99999*seats;");
        due("however little is lacked", 6, x.place());
        int[] homes = {0, 3, 1, 4, 2, 5};
        for (int f = 0; f < 6; f++) due("home of " + f, homes[f], x.told(f, 1));
    }

    @Sentence("LACK of a TOWN: share less HEADS of all HOUSED there.")
    static void lack() {
        BedOffice x = new BedOffice();
        x.town(0, 0, 0);
        x.town(1, 0, 0);
        for (int h = 0; h < 4; h++) x.home(h / 2, 904, 200);
        x.family(300, 0);
        x.family(200, 0);
        x.family(900, 0);
        due("without share and heads", 0, x.lack(0));
        x.place();
        due("3 to the first, 2 to the second, 9 to the second", -3, x.lack(0));
        due("two families", -11, x.lack(1));
        law(x, "share 10;");
        due("share 10", 7, x.lack(0));
        due("share 10", -1, x.lack(1));
        x.leave(0);
        due("gone", 10, x.lack(0));
        x.move(1, NONE);
        due("in the hall", 1, x.lack(1));
    }

    @Sentence("What was done is kept, till it is done anew:")
    static void keptTillAnew() {
        BedOffice x = new BedOffice();
        x.town(0, 0, 0);
        x.home(0, 104, 200);
        x.home(0, 104, 200);
        x.family(100, 0);
        x.family(100, 1);
        x.family(100, 1);
        x.record(0, 5, 5, 0, 1);
        x.seek(0, 5, 5);
        law(x, "must kin>0 or clan=1;");
        due("place()", 2, x.place());
        due("passed(0, 1)", 9, x.passed(0, 1));
        due("passed(0, 2)", 0, x.passed(0, 2));
        x.move(1, NONE);
        x.move(2, NONE);
        due("beside another sheet", 2, x.beside(law(x, "must clan=1;")));
        due("kept, beside", 0, x.passed(0, 2));
        x.best(7, 3, 0);
        x.go(1);
        x.leave(1);
        x.strike(0);
        x.family(100, 0);
        due("kept", 9, x.passed(0, 1));
        due("kept", 0, x.passed(0, 2));
        due("done anew", 1, x.place());
        due("by one that is gone no more", NONE, x.passed(0, 1));
        due("anew", 9, x.passed(0, 2));
        due("behind it", NONE, x.passed(3, 2));
        x.strike(1);
        due("all the others", 1, x.place());
        due("placed", NONE, x.passed(0, 2));
        due("one is left: no home", 2, x.bar(3, 0));
        due("nobody behind it", NONE, x.passed(3, 0));
        x.leave(3);
        due("nobody", 0, x.place());
        for (int f = 0; f < 4; f++) {
            for (int g = 0; g < 4; g++) due("passed(" + f + ", " + g + ")", NONE, x.passed(f, g));
        }
    }

    @Sentence("PASSED was a FAMILY that wasn't PLACED, by each that came behind it and was;")
    static void passed() {
        BedOffice x = new BedOffice();
        x.town(0, 0, 0);
        x.home(0, 104, 200);
        x.home(0, 104, 200);
        x.home(0, 104, 200);
        int[] heads = {1, 2, 1, 3, 1, 2};
        for (int f = 0; f < 6; f++) x.family(heads[f] * 100, 5 - f);
        law(x, "ahead 7;");
        due("place()", 3, x.place());
        for (int f = 0; f < 6; f++) {
            for (int g = 0; g < 6; g++) {
                boolean wasPassed = heads[f] > 1 && heads[g] == 1 && g > f;
                due("passed(" + f + ", " + g + ")", wasPassed ? 3 : NONE, x.passed(f, g));
            }
        }
        for (int f = 0; f < 6; f += 2) x.move(f, NONE);
        law(x, "ahead 0-clan;");
        due("by clans: the last one is the first", 3, x.place());
        for (int f = 0; f < 6; f++) {
            for (int g = 0; g < 6; g++) {
                boolean wasPassed = heads[f] > 1 && heads[g] == 1 && g < f;
                due("the other way round, passed(" + f + ", " + g + ")", wasPassed ? 3 : NONE, x.passed(f, g));
            }
        }
    }

    @Sentence("WHY: its BAR then (as that one was to be PLACED) for the HOME that that one got (0, if there is none then).")
    static void why() {
        BedOffice x = new BedOffice();
        x.town(0, 0, 0);
        x.home(0, 104, 200);
        x.home(0, 114, 200);
        x.home(0, 101, 200);
        x.home(0, 104, 200);
        x.family(201, 0);
        x.family(101, 0);
        for (int f = 2; f < 6; f++) x.family(100, 101);
        x.record(0, 5, 5, 0, 3);
        x.seek(1, 5, 5);
        law(x, "must kin>0 or clan=1;");
        due("place()", 4, x.place());
        for (int f = 2; f < 6; f++) {
            due("home of " + f, f - 2, x.told(f, 1));
            due("0 by " + f + ": heads above rooms", 3, x.passed(0, f));
        }
        due("1 by 2: must", 9, x.passed(1, 2));
        due("1 by 3: stairs", 4, x.passed(1, 3));
        due("1 by 4: kept", 6, x.passed(1, 4));
        due("1 by 5: no bar, as its kin was housed", 0, x.passed(1, 5));
        x.leave(3);
        x.full(0, true);
        due("as it was then", 9, x.passed(1, 2));
        due("as it was then", 0, x.passed(1, 5));
    }

    // ---- moves

    @Sentence("A MOVE: one HOUSED goes to another HOME without a BAR, or to THE HALL.")
    static void moves() {
        BedOffice x = new BedOffice();
        x.town(0, 0, 0);
        x.town(5, 0, 0);
        x.home(0, 104, 200);
        x.home(1, 104, 200);
        x.home(1, 114, 200);
        x.family(101, 0);
        x.family(100, 0);
        due("in the hall: not to a home", NONE, x.move(0, 0));
        due("nor to the hall", NONE, x.move(0, NONE));
        due("place()", 2, x.place());
        due("a home with a bar: another one is there", NONE, x.move(0, 1));
        due("a home with a bar: stairs", NONE, x.move(0, 2));
        due("its own home", NONE, x.move(0, 0));
        due("where it was", 0, x.told(0, 1));
        due("without a bar", 0, x.move(1, 2));
        due("home 2", 2, x.told(1, 1));
        due("home 1 is free", 0, x.move(0, 1));
        due("home 1", 1, x.told(0, 1));
        due("heads of town 0", 0, x.is(0, 1));
        due("heads of town 1", 2, x.is(1, 1));
        due("to the hall", 0, x.move(0, NONE));
        due("in the hall", 0, x.told(0, 0));
        due("heads of town 1", 1, x.is(1, 1));
        x.leave(0);
        due("gone", NONE, x.move(0, 0));
        due("gone", NONE, x.move(0, NONE));
    }

    @Sentence("It BREAKS school, if it has PUPILS and the TOWN is another one; work, if the TOWN wanted its TRADE and the new one doesn't "
            + "(THE HALL wants and teaches nothing).")
    static void breaks() {
        for (int pupils = 0; pupils <= 2; pupils++) {
            for (int wanted = 0; wanted < 4; wanted++) {
                BedOffice x = new BedOffice();
                x.town(0, 1540, (wanted & 1) == 1 ? 8 : 55);
                x.town(0, 1540, (wanted & 2) == 2 ? 8 : 55);
                for (int h = 0; h < 4; h++) x.home(h / 2, 204, 200);
                x.family(200 + pupils * 10, 30);
                x.place();
                int school = pupils > 0 ? 1 : 0;
                String told = pupils + " pupils, wanted " + wanted + ": ";
                due(told + "in one town", 0, x.move(0, 1));
                due(told + "to the other town", school + (wanted == 1 ? 2 : 0), x.move(0, 3));
                due(told + "in that town", 0, x.move(0, 2));
                due(told + "back", school + (wanted == 2 ? 2 : 0), x.move(0, 0));
                due(told + "to the hall", school + ((wanted & 1) == 1 ? 2 : 0), x.move(0, NONE));
            }
        }
    }

    // ---- the end of a day

    @Sentence("As a DAY ends: a HOME whose till is that DAY is left (to THE HALL), ahead of all else; NIGHTS of those IN THE HALL (these, too) are one more;")
    static void homesAreLeft() {
        BedOffice x = new BedOffice();
        x.town(0, 0, 0);
        x.home(0, 104, 1);
        x.home(0, 104, 2);
        x.home(0, 104, 200);
        for (int f = 0; f < 4; f++) x.family(100, 0);
        law(x, "sum 1;");
        x.place();
        int[][] state = {{1, 1, 1, 0}, {0, 1, 1, 0}, {0, 0, 1, 0}, {0, 0, 1, 0}};
        int[][] nights = {{0, 0, 0, 1}, {1, 0, 0, 2}, {2, 1, 0, 3}, {3, 2, 0, 4}};
        int[] sums = {3, 5, 6, 7};
        for (int day = 0; day < 4; day++) {
            x.go(1);
            for (int f = 0; f < 4; f++) {
                due("as day " + day + " ended, told(" + f + ", 0)", state[day][f], x.told(f, 0));
                due("as day " + day + " ended, told(" + f + ", 2)", nights[day][f], x.told(f, 2));
            }
            due("as day " + day + " ended, is(0, 3)", sums[day], x.is(0, 3));
            due("as day " + day + " ended, heads in the hall", 4 - sums[day] + (day > 0 ? sums[day - 1] : 0), x.ended(day, 0));
        }
        go(x, 200);
        due("till 200: never left", 1, x.told(2, 0));
        due("200 nights in the hall", 200, x.told(3, 2));
    }

    private static void sum(String sum, int want) {
        BedOffice x = new BedOffice();
        x.town(0, 0, 0);
        x.town(0, 0, 0);
        x.home(0, 304, 200);
        x.family(200, 0);
        x.place();
        law(x, "sum " + sum + ";");
        x.go(1);
        due("is(0, 3) for sum " + sum, want, x.is(0, 3));
        due("ended(0, 4) for sum " + sum, want, x.ended(0, 4));
        due("is(1, 3) for sum " + sum, 0, x.is(1, 3));
    }

    @Sentence("each TOWN gets sum (asked for each FAMILY HOUSED there and its HOME; at least 0; what is beyond 1000000 is that).")
    static void sums() {
        sum("0-1", 0);
        sum("0", 0);
        sum("1", 1);
        sum("0-99999*99999", 0);
        sum("99999*10+9", 999999);
        sum("99999*10+10", 1000000);
        sum("99999*10+11", 1000000);
        sum("99999*99999", 1000000);
        sum("rooms*100+heads*10+day", 320);
        BedOffice x = new BedOffice();
        x.town(0, 0, 0);
        x.town(0, 0, 0);
        x.home(0, 204, 200);
        x.home(0, 304, 200);
        x.home(1, 404, 200);
        x.family(200, 0);
        x.family(300, 0);
        x.family(400, 0);
        x.family(900, 0);
        x.wish(0, 0);
        x.wish(1, 0);
        due("place()", 3, x.place());
        law(x, "sum heads*10+rooms;");
        x.go(2);
        due("two families, two days", 2 * (22 + 33), x.is(0, 3));
        due("the other town", 2 * 44, x.is(1, 3));
        due("of that day", 22 + 33 + 44, x.ended(1, 4));
        x.move(2, NONE);
        x.go(1);
        due("nobody is housed there", 2 * 44, x.is(1, 3));
        due("of that day", 22 + 33, x.ended(2, 4));
        BedOffice y = new BedOffice();
        y.town(0, 0, 0);
        y.home(0, 904, 200);
        y.home(0, 904, 200);
        y.family(100, 0);
        y.family(900, 0);
        y.place();
        law(y, "sum (heads-5)*10;");
        y.go(1);
        due("what is below 0 for one takes nothing from what it is for another", 40, y.is(0, 3));
        due("of that day", 40, y.ended(0, 4));
    }

    @Sentence("It is kept where each FAMILY was. NOW is one more.")
    static void keptPlaces() {
        BedOffice x = new BedOffice();
        x.town(0, 0, 0);
        x.home(0, 104, 200);
        x.home(0, 104, 1);
        x.family(100, 0);
        due("day 0", 1, x.go(1));
        x.place();
        x.move(0, 1);
        x.move(0, 0);
        due("day 1", 2, x.go(1));
        x.move(0, NONE);
        due("day 2", 3, x.go(1));
        x.leave(0);
        due("day 3", 4, x.go(1));
        int[] where = {100, 0, 100, 101};
        for (int day = 0; day < 4; day++) due("night(0, " + day + ")", where[day], x.night(0, day));
        for (int day = 0; day < 4; day++) due("lead(0, " + day + ")", day == 1 ? 0 : NONE, x.lead(0, day));
        BedOffice y = new BedOffice();
        y.town(0, 0, 0);
        y.home(0, 104, 0);
        y.family(100, 0);
        y.place();
        y.go(1);
        due("left as that day ended", 100, y.night(0, 0));
        due("nobody was there", NONE, y.lead(0, 0));
    }

    // ---- beyond

    @Sentence("BEYOND is a FAMILY IN THE HALL with more NIGHTS than limit.")
    static void beyond() {
        BedOffice x = new BedOffice();
        x.town(0, 0, 0);
        x.home(0, 104, 200);
        x.family(100, 0);
        x.family(200, 0);
        x.family(300, 0);
        law(x, "limit 2;");
        due("0 nights", 0, x.beyond());
        x.go(2);
        due("2 nights", 0, x.beyond());
        x.go(1);
        due("3 nights", 3, x.beyond());
        x.place();
        due("one is housed", 2, x.beyond());
        x.leave(1);
        due("one is gone", 1, x.beyond());
        law(x, "limit 3;");
        due("3 nights of 3", 0, x.beyond());
        law(x, "limit heads-1;");
        due("3 nights of 2", 1, x.beyond());
        x.family(100, 0);
        due("0 nights of 0", 1, x.beyond());
        law(x, "limit 0-1;");
        due("0 nights of -1", 2, x.beyond());
        BedOffice y = new BedOffice();
        y.family(100, 0);
        go(y, 30);
        due("30 nights of 30 without any", 0, y.beyond());
        y.go(1);
        due("31 nights", 1, y.beyond());
    }

    /** For each bar, a home that has it for a lame family of five heads and two pupils in tongue 1. */
    private static final int[] WITH_BAR = {904, 904, 0, 404, 914, 904, 900};

    private static void end(int want, int... bars) {
        BedOffice x = new BedOffice();
        x.town(0, 210, 0);
        x.town(0, 0, 0);
        x.home(0, 104, 200);
        x.family(100, 0);
        x.place();
        x.family(521, 100);
        StringBuilder told = new StringBuilder("ends(1) of bars");
        for (int i = 0; i < bars.length; i++) {
            int bar = bars[i];
            x.home(bar == 5 ? 1 : 0, WITH_BAR[bar], bar == 1 ? 1200 : 200);
            due("bar(1, " + (i + 1) + ")", bar, x.bar(1, i + 1));
            told.append(' ').append(bar);
        }
        x.leave(0);
        due(told.toString(), want, x.ends(1));
    }

    @Sentence("What would END it: the HOME with the least BAR of it above 0, of like ones the least number; if one has no BAR, that one.")
    static void ends() {
        // Home 0 is of one room: bar 3.
        end(0);
        end(0, 3, 3);
        end(0, 4, 5, 6);
        end(1, 1, 3, 4);
        end(3, 4, 3, 1, 6);
        end(3, 4, 3, 1, 1, 6);
        end(4, 1, 3, 1, 0, 6);
        end(2, 6, 0, 0, 1);
        end(1, 0, 1, 0);
        BedOffice x = new BedOffice();
        x.family(100, 0);
        due("no home", NONE, x.ends(0));
        x.town(0, 0, 0);
        x.home(0, 104, 200);
        x.home(0, 104, 200);
        law(x, "must rooms=2;");
        due("9, of like ones the least number", 0, x.ends(0));
        x.home(0, 204, 200);
        due("no bar", 2, x.ends(0));
    }
}
