/** An office of beds for families who were driven out, as ../shared/DOC.md tells it. */
public final class BedOffice {
    public static final int NONE = -1;

    private static final int NOT_TOLD = -2147483648;

    private static final int LAST_DAY = 200;
    private static final int LONGEST_GO = 40;
    private static final int MOST_TOWNS = 8;
    private static final int MOST_HOMES = 24;
    private static final int MOST_FAMILIES = 24;
    private static final int MOST_RECORDS = 60;
    private static final int MOST_SEEKINGS = 40;
    private static final int MOST_TELLINGS = 40;
    private static final int MOST_SHEETS = 10;
    private static final int MOST_BYTES = 500;
    private static final int MOST_OPENED = 8;
    private static final int MOST_CHOSEN = 6;
    private static final int MOST_BEDS = 200;
    private static final int MOST_BY_BOAT = 200;
    private static final int MOST_BEDS_FORETOLD = 100;

    private static final int CLANS = 6;
    private static final int ANY_TONGUE = 4;
    private static final int DIGITS = 6;
    private static final int LEAST_ALIKE = 4;
    private static final int LEAST_FOUND = 5;

    private static final int IN_HALL = 0;
    private static final int HOUSED = 1;
    private static final int GONE = 2;

    private static final int NIGHT_IN_HALL = 100;
    private static final int NIGHT_GONE = 101;
    private static final int FIRST_TOWN_ASKING = 100;

    private static final int BREAKS_SCHOOL = 1;
    private static final int BREAKS_WORK = 2;

    private static final int AHEAD = 0;
    private static final int SHARE = 1;
    private static final int LIMIT = 2;
    private static final int SUM = 3;
    private static final int MUST = 4;
    private static final int SHOW = 5;
    private static final int CLAUSES = 6;

    private static final int MOST_VALUE = 1000000;
    private static final int MOST_NUMBER = 99999;
    private static final long MOST_SUMS_TOLD = 2000000000L;

    // The places of the NAMES among the values that a clause is asked with.
    private static final int HEADS_NAME = 0;
    private static final int PUPILS_NAME = 1;
    private static final int LAME_NAME = 2;
    private static final int TONGUE_NAME = 3;
    private static final int TRADE_NAME = 4;
    private static final int CLAN_NAME = 5;
    private static final int NIGHTS_NAME = 6;
    private static final int WISH_NAME = 7;
    private static final int KIN_NAME = 8;
    private static final int ROOMS_NAME = 9;
    private static final int STAIRS_NAME = 10;
    private static final int MILES_NAME = 11;
    private static final int SEATS_NAME = 12;
    private static final int WANTED_NAME = 13;
    private static final int ALL_NAME = 14;
    private static final int BEDS_NAME = 15;
    private static final int DAY_NAME = 16;
    private static final int OWN_NAME = 17;
    private static final int NAMES = 18;

    // The code of a clause holds NAMES by their places, signs by their bytes, numbers moved up, and these.
    private static final int AND_CODE = 20;
    private static final int OR_CODE = 21;
    private static final int NOT_CODE = 22;
    private static final int NUMBER_CODE = 1000;

    // A word's number is its place here: the clauses, the words that join, the NAMES in the order above.
    private static final String WORDS = "ahead share limit sum must show and or not heads pupils lame tongue trade clan nights wish kin rooms stairs miles seats wanted all beds day own ";
    private static final int AND_WORD = 6;
    private static final int OR_WORD = 7;
    private static final int NOT_WORD = 8;
    private static final int FIRST_NAME_WORD = 9;

    private final Register register;
    private final Text text;
    private final Placing placing;
    private final Choice choice;
    private final Book book;
    private final Forecast forecast;

    public BedOffice() {
        register = new Register();
        text = new Text();
        placing = new Placing(register);
        choice = new Choice(register);
        book = new Book();
        forecast = new Forecast();
    }

    public int town(int mile, int what, int trades) {
        if (mile < 0 || mile > 999 || trades < 0 || trades > 63) {
            return NONE;
        }
        if (what < 0 || what / 100 > 15 || what % 100 > 40) {
            return NONE;
        }
        return register.towns.add(mile, what / 100, what % 100, trades);
    }

    public boolean full(int town, boolean full) {
        if (!register.towns.has(town) || register.towns.full[town] == full) {
            return false;
        }
        register.towns.full[town] = full;
        return true;
    }

    public int home(int town, int what, int days) {
        if (!register.towns.has(town) || !canBeHome(what) || !canBeDays(days)) {
            return NONE;
        }
        int number = register.homes.add(town, what, days);
        if (number != NONE) {
            register.towns.rooms[town] += what / 100;
        }
        return number;
    }

    public boolean beds(int n) {
        if (n < 0 || n > MOST_BEDS) {
            return false;
        }
        register.hallBeds = n;
        return true;
    }

    public int family(int what, int kind) {
        if (!canBeHeads(what) || !canBeKind(kind)) {
            return NONE;
        }
        int number = register.families.add(what, kind, register.now);
        if (number != NONE) {
            register.present += what / 100;
        }
        return number;
    }

    public boolean wish(int family, int town) {
        if (!register.isHere(family) || (town != NONE && !register.towns.has(town))) {
            return false;
        }
        register.families.wish[family] = town;
        return true;
    }

    public boolean apart(int one, int other, int miles) {
        if (one < 0 || one >= CLANS || other < 0 || other >= CLANS || one == other) {
            return false;
        }
        if (miles < 0 || miles > 200) {
            return false;
        }
        register.families.apart[one][other] = miles;
        register.families.apart[other][one] = miles;
        return true;
    }

    public int record(int list, int name, int born, int seen, int family) {
        if (list < 0 || list > 2 || !canBeSought(name, born) || !canBeDays(seen)) {
            return NONE;
        }
        if (family != NONE && !register.families.has(family)) {
            return NONE;
        }
        return register.records.add(list, name, born, seen, family);
    }

    public int alike(int one, int other) {
        if (!register.records.canBeAlike(one, other)) {
            return NOT_TOLD;
        }
        return register.records.points(one, register.records.name[other], register.records.born[other]);
    }

    public int match(int record) {
        return register.records.matchOf(record);
    }

    public int rivals(int record) {
        int found = register.records.matchOf(record);
        return found == NONE ? NONE : register.records.rivalsOf(record, found);
    }

    public int join(int one, int other) {
        return register.records.joinHeaps(one, other);
    }

    public int part(int record) {
        return register.records.partHeap(record);
    }

    public boolean same(int one, int other) {
        Records records = register.records;
        return records.has(one) && records.has(other) && records.heap[one] == records.heap[other];
    }

    public boolean seek(int family, int name, int born) {
        if (!register.families.has(family) || !canBeSought(name, born)) {
            return false;
        }
        return register.records.addSeeking(family, name, born);
    }

    public int finds(int family, int other) {
        if (!register.families.has(family) || !register.families.has(other) || family == other) {
            return NONE;
        }
        return register.records.howSurely(family, other);
    }

    public int kin(int family) {
        return register.families.has(family) ? register.records.kinOf[family] : NONE;
    }

    public int mutual(int family) {
        return register.families.has(family) ? register.records.mutualOf(family) : NONE;
    }

    public int feed(int a, int b, int c, int d, int e) {
        if (!text.hasRoomFor(20)) {
            return NONE;
        }
        text.addNumber(a);
        text.addNumber(b);
        text.addNumber(c);
        text.addNumber(d);
        text.addNumber(e);
        return text.length;
    }

    public boolean end(int n) {
        if (n < 0 || n > text.length) {
            return false;
        }
        text.length = n;
        return true;
    }

    public int fault() {
        text.parse();
        return text.faultAt;
    }

    public int sheet() {
        text.parse();
        if (text.faultAt != NONE) {
            return NONE;
        }
        int number = register.laws.enact(text, register.now);
        if (number != NONE) {
            text.length = 0;
        }
        return number;
    }

    public boolean strike(int sheet) {
        if (!register.laws.has(sheet) || register.laws.struck[sheet] != NONE) {
            return false;
        }
        register.laws.struck[sheet] = register.now;
        return true;
    }

    public int why(int clause, int day) {
        if (clause < 0 || clause >= CLAUSES || day < 0 || day > register.now) {
            return NONE;
        }
        return register.laws.inForce(clause, day);
    }

    public int rank(int family, int what) {
        if (!register.families.has(family)) {
            return NOT_TOLD;
        }
        switch (what) {
            case 0: return register.aheadOf(family);
            case 1: return register.limitOf(family);
            default: return NOT_TOLD;
        }
    }

    public int lack(int town) {
        return register.towns.has(town) ? register.lackOf(town) : NOT_TOLD;
    }

    public int bar(int family, int home) {
        if (!register.isHere(family) || !register.homes.has(home)) {
            return NONE;
        }
        return register.barOf(family, home);
    }

    public int place() {
        placing.forgetWhys();
        placing.lineUp();
        return placing.placeAll(true);
    }

    public int passed(int family, int other) {
        return placing.whyPassed(family, other);
    }

    public int move(int family, int home) {
        if (!register.isIn(family, HOUSED)) {
            return NONE;
        }
        if (home == NONE) {
            int broken = register.brokenBy(family, NONE);
            register.unsettle(family);
            return broken;
        }
        if (!register.homes.has(home) || register.families.home[family] == home
                || register.barOf(family, home) != 0) {
            return NONE;
        }
        int broken = register.brokenBy(family, register.homes.town[home]);
        register.unsettle(family);
        register.settle(family, home);
        return broken;
    }

    public boolean leave(int family) {
        if (!register.isHere(family)) {
            return false;
        }
        register.unsettle(family);
        register.families.state[family] = GONE;
        register.present -= register.families.heads[family];
        return true;
    }

    public int go(int n) {
        if (n < 0 || n > LONGEST_GO) {
            return NONE;
        }
        for (int i = 0; i < n && register.now < LAST_DAY; i++) {
            closeDay();
        }
        return register.now;
    }

    public int night(int family, int day) {
        if (!register.families.has(family) || day < register.families.came[family] || !hasEnded(day)) {
            return NONE;
        }
        return book.where[family][day];
    }

    public int lead(int home, int day) {
        if (!register.homes.has(home) || !hasEnded(day)) {
            return NONE;
        }
        return book.lodgerOf(home, day, register.families);
    }

    public int beyond() {
        int many = 0;
        for (int f = 0; f < register.families.size; f++) {
            if (register.families.state[f] == IN_HALL && register.families.nights[f] > register.limitOf(f)) {
                many++;
            }
        }
        return many;
    }

    public int ends(int family) {
        if (!register.isIn(family, IN_HALL)) {
            return NONE;
        }
        int found = NONE;
        int least = 0;
        for (int h = 0; h < register.homes.size; h++) {
            int barred = register.barOf(family, h);
            if (found == NONE || barred < least) {
                found = h;
                least = barred;
            }
        }
        return found;
    }

    public int show(int who, int family, int what) {
        if (!register.families.has(family) || !register.canAsk(who) || !register.isShown(who, family)) {
            return NONE;
        }
        switch (what) {
            case 0: return register.families.state[family];
            case 1: return register.families.town[family];
            case 2: return register.families.heads[family];
            case 3: return register.families.nights[family];
            default: return NONE;
        }
    }

    public int best(int families, int homes, int k) {
        if (!choice.takes(families, homes) || k < NONE || k >= choice.families) {
            return NONE;
        }
        choice.search();
        return k == NONE ? choice.bestHeads : choice.bestWay[k];
    }

    public int boat(int day, int low, int high) {
        if (!isAhead(day) || low < 0 || low > high || high > MOST_BY_BOAT) {
            return NONE;
        }
        return forecast.addBoat(day, low, high);
    }

    public int foretell(int day, int n) {
        if (!isAhead(day) || n < -MOST_BEDS_FORETOLD || n > MOST_BEDS_FORETOLD) {
            return NONE;
        }
        return forecast.addBeds(day, n);
    }

    public int worst(int day, int what) {
        if (!isAhead(day)) {
            return NONE;
        }
        int inHall = register.headsIn(IN_HALL);
        switch (what) {
            case 0: return forecast.mostAbove(forecast.high, inHall, register.hallBeds, register.now, day);
            case 1: return forecast.firstAbove(inHall, register.hallBeds, register.now, day);
            case 2: return forecast.mostAbove(forecast.low, inHall, register.hallBeds, register.now, day);
            default: return NONE;
        }
    }

    public int beside(int sheet) {
        if (!register.laws.has(sheet)) {
            return NONE;
        }
        register.laws.instead = sheet;
        placing.lineUp();
        placing.placeAll(false);
        int heads = placing.takeBack();
        register.laws.instead = NONE;
        return heads;
    }

    public int check(int day, int number, int mask) {
        if (!hasEnded(day) || number < 0 || number > 4) {
            return NONE;
        }
        return book.checked(day, number, mask, register.families);
    }

    public int ended(int day, int number) {
        if (!hasEnded(day) || number < 0 || number > 4) {
            return NONE;
        }
        return book.numberOf(day, number, register.families);
    }

    public int told(int family, int what) {
        Families families = register.families;
        if (!families.has(family)) {
            return NONE;
        }
        switch (what) {
            case 0: return families.state[family];
            case 1: return families.home[family];
            case 2: return families.nights[family];
            case 3: return families.heads[family];
            case 4: return families.came[family];
            case 5: return families.wish[family];
            default: return NONE;
        }
    }

    public int is(int town, int what) {
        Towns towns = register.towns;
        if (!towns.has(town)) {
            return NONE;
        }
        switch (what) {
            case 0: return towns.mile[town];
            case 1: return towns.heads[town];
            case 2: return towns.seats[town] - towns.pupils[town];
            case 3: return (int) Math.min(MOST_SUMS_TOLD, towns.sums[town]);
            case 4: return towns.full[town] ? 1 : 0;
            case 5: return Math.max(0, register.lackOf(town));
            default: return NONE;
        }
    }

    public int count(int what) {
        switch (what) {
            case 0: return register.now;
            case 1: return register.towns.size;
            case 2: return register.homes.size;
            case 3: return register.families.size;
            case 4: return register.records.size;
            case 5: return register.laws.size;
            case 6: return text.length;
            case 7: return register.headsIn(IN_HALL);
            case 8: return register.hallBeds;
            case 9: return Math.max(0, register.headsIn(IN_HALL) - register.hallBeds);
            case 10: return forecast.boats;
            case 11: return forecast.bedTellings;
            case 12: return register.records.seekings;
            default: return NONE;
        }
    }

    private void closeDay() {
        register.emptyEndingHomes();
        register.countNights();
        book.keepFamilies(register);
        book.keepSums(register);
        register.now++;
    }

    private boolean hasEnded(int day) {
        return day >= 0 && day < register.now;
    }

    private boolean isAhead(int day) {
        return day >= register.now && day <= LAST_DAY;
    }

    private static boolean canBeDays(int days) {
        return days >= 0 && days % 1000 <= LAST_DAY && days / 1000 <= days % 1000;
    }

    private static boolean canBeHome(int what) {
        return what >= 100 && what <= 999 && what / 10 % 10 <= 1 && what % 10 <= ANY_TONGUE;
    }

    private static boolean canBeHeads(int what) {
        return what >= 100 && what <= 999 && what / 10 % 10 <= what / 100 && what % 10 <= 1;
    }

    private static boolean canBeKind(int kind) {
        return kind >= 0 && kind / 100 <= 3 && kind / 10 % 10 <= 5 && kind % 10 < CLANS;
    }

    private static boolean canBeSought(int name, int born) {
        return name >= 0 && name <= 999999 && born >= 0 && born <= 120;
    }

    /** The TOWNS, a column for each thing told or counted of them. */
    private static final class Towns {
        int size;
        final int[] mile = new int[MOST_TOWNS];
        final int[] schools = new int[MOST_TOWNS];
        final int[] seats = new int[MOST_TOWNS];
        final int[] trades = new int[MOST_TOWNS];
        final boolean[] full = new boolean[MOST_TOWNS];
        final int[] rooms = new int[MOST_TOWNS];
        final int[] heads = new int[MOST_TOWNS];
        final int[] pupils = new int[MOST_TOWNS];
        final int[] lodgers = new int[MOST_TOWNS];
        final long[] sums = new long[MOST_TOWNS];

        boolean has(int t) {
            return t >= 0 && t < size && t < MOST_TOWNS;
        }

        int add(int itsMile, int itsSchools, int itsSeats, int itsTrades) {
            if (size >= MOST_TOWNS) {
                return NONE;
            }
            mile[size] = itsMile;
            schools[size] = itsSchools;
            seats[size] = itsSeats;
            trades[size] = itsTrades;
            size++;
            return size - 1;
        }

        boolean wants(int t, int trade) {
            return t >= 0 && t < size && (trades[t] >> trade & 1) == 1;
        }

        boolean teaches(int t, int tongue) {
            return t >= 0 && t < size && (schools[t] >> tongue & 1) == 1;
        }

        int milesBetween(int one, int other) {
            return has(one) && has(other) ? Math.abs(mile[one] - mile[other]) : 0;
        }
    }

    /** The HOMES, and the FAMILY HOUSED in each. */
    private static final class Homes {
        int size;
        final int[] town = new int[MOST_HOMES];
        final int[] rooms = new int[MOST_HOMES];
        final int[] stairs = new int[MOST_HOMES];
        final int[] kept = new int[MOST_HOMES];
        final int[] from = new int[MOST_HOMES];
        final int[] till = new int[MOST_HOMES];
        final int[] lodger = new int[MOST_HOMES];

        boolean has(int h) {
            return h >= 0 && h < size && h < MOST_HOMES;
        }

        int add(int itsTown, int what, int days) {
            if (size >= MOST_HOMES) {
                return NONE;
            }
            town[size] = itsTown;
            rooms[size] = what / 100;
            stairs[size] = what / 10 % 10;
            kept[size] = what % 10;
            from[size] = days / 1000;
            till[size] = days % 1000;
            lodger[size] = NONE;
            size++;
            return size - 1;
        }
    }

    /** The FAMILIES, and how far CLANS are to be APART. */
    private static final class Families {
        int size;
        final int[] heads = new int[MOST_FAMILIES];
        final int[] pupils = new int[MOST_FAMILIES];
        final int[] lame = new int[MOST_FAMILIES];
        final int[] tongue = new int[MOST_FAMILIES];
        final int[] trade = new int[MOST_FAMILIES];
        final int[] clan = new int[MOST_FAMILIES];
        final int[] state = new int[MOST_FAMILIES];
        final int[] home = new int[MOST_FAMILIES];
        final int[] town = new int[MOST_FAMILIES];
        final int[] nights = new int[MOST_FAMILIES];
        final int[] came = new int[MOST_FAMILIES];
        final int[] wish = new int[MOST_FAMILIES];
        final int[][] apart = new int[CLANS][CLANS];

        boolean has(int f) {
            return f >= 0 && f < size && f < MOST_FAMILIES;
        }

        int add(int what, int kind, int day) {
            if (size >= MOST_FAMILIES) {
                return NONE;
            }
            heads[size] = what / 100;
            pupils[size] = what / 10 % 10;
            lame[size] = what % 10;
            tongue[size] = kind / 100;
            trade[size] = kind / 10 % 10;
            clan[size] = kind % 10;
            state[size] = IN_HALL;
            home[size] = NONE;
            town[size] = NONE;
            nights[size] = 0;
            came[size] = day;
            wish[size] = NONE;
            size++;
            return size - 1;
        }

        int milesApart(int one, int other) {
            return has(one) && has(other) ? apart[clan[one]][clan[other]] : 0;
        }
    }

    /** The RECORDS in their heaps, what FAMILIES seek, and who is KIN by that. */
    private static final class Records {
        int size;
        final int[] list = new int[MOST_RECORDS];
        final int[] name = new int[MOST_RECORDS];
        final int[] born = new int[MOST_RECORDS];
        final int[] from = new int[MOST_RECORDS];
        final int[] to = new int[MOST_RECORDS];
        final int[] family = new int[MOST_RECORDS];
        // A heap's number is that of one of its own RECORDS, so that no two heaps bear the same.
        final int[] heap = new int[MOST_RECORDS];
        int seekings;
        final int[] seeker = new int[MOST_SEEKINGS];
        final int[] soughtName = new int[MOST_SEEKINGS];
        final int[] soughtBorn = new int[MOST_SEEKINGS];
        final int[] foundBy = new int[MOST_FAMILIES];
        final int[] kinOf = new int[MOST_FAMILIES];

        boolean has(int r) {
            return r >= 0 && r < size && r < MOST_RECORDS;
        }

        int add(int itsList, int itsName, int itsBorn, int seen, int itsFamily) {
            if (size >= MOST_RECORDS) {
                return NONE;
            }
            list[size] = itsList;
            name[size] = itsName;
            born[size] = itsBorn;
            from[size] = seen / 1000;
            to[size] = seen % 1000;
            family[size] = itsFamily;
            heap[size] = size;
            size++;
            noteFinding(size - 1);
            return size - 1;
        }

        int points(int r, int otherName, int otherBorn) {
            if (!has(r)) {
                return 0;
            }
            int same = 0;
            int one = name[r];
            int other = otherName;
            for (int i = 0; i < DIGITS; i++) {
                if (one % 10 == other % 10) {
                    same++;
                }
                one /= 10;
                other /= 10;
            }
            return same - Math.abs(born[r] - otherBorn);
        }

        boolean areBarred(int one, int other) {
            return from[one] <= to[other] && from[other] <= to[one];
        }

        boolean canBeAlike(int one, int other) {
            return has(one) && has(other) && list[one] != list[other] && !areBarred(one, other);
        }

        int matchOf(int r) {
            int found = NONE;
            int most = LEAST_ALIKE - 1;
            for (int other = 0; other < size; other++) {
                if (canBeAlike(r, other)) {
                    int points = points(r, name[other], born[other]);
                    if (points > most) {
                        found = other;
                        most = points;
                    }
                }
            }
            return found;
        }

        int rivalsOf(int r, int found) {
            if (!has(found)) {
                return NONE;
            }
            int most = points(r, name[found], born[found]);
            int many = 0;
            for (int other = 0; other < size; other++) {
                if (other != found && canBeAlike(r, other) && points(r, name[other], born[other]) == most) {
                    many++;
                }
            }
            return many;
        }

        int joinHeaps(int one, int other) {
            if (!has(one) || !has(other) || heap[one] == heap[other] || !canBeOneHeap(heap[one], heap[other])) {
                return NONE;
            }
            int joined = heap[one];
            int added = heap[other];
            int many = 0;
            for (int r = 0; r < size; r++) {
                if (heap[r] == added) {
                    heap[r] = joined;
                }
                if (heap[r] == joined) {
                    many++;
                }
            }
            for (int r = 0; r < size; r++) {
                if (heap[r] == joined) {
                    noteFinding(r);
                }
            }
            return many;
        }

        private boolean canBeOneHeap(int one, int other) {
            for (int a = 0; a < size; a++) {
                for (int b = 0; b < size; b++) {
                    if (heap[a] == one && heap[b] == other && !canBeAlike(a, b)) {
                        return false;
                    }
                }
            }
            return true;
        }

        int partHeap(int record) {
            if (!has(record)) {
                return NONE;
            }
            int parted = heap[record];
            int many = 0;
            for (int r = 0; r < size; r++) {
                if (heap[r] == parted) {
                    heap[r] = r;
                    many++;
                }
            }
            findAnew();
            return many;
        }

        boolean addSeeking(int f, int itsName, int itsBorn) {
            if (seekings >= MOST_SEEKINGS) {
                return false;
            }
            seeker[seekings] = f;
            soughtName[seekings] = itsName;
            soughtBorn[seekings] = itsBorn;
            seekings++;
            for (int r = 0; r < size; r++) {
                noteIfFound(seekings - 1, r);
            }
            return true;
        }

        int howSurely(int f, int other) {
            int most = NONE;
            for (int s = 0; s < seekings; s++) {
                for (int r = 0; r < size && seeker[s] == f; r++) {
                    int points = points(r, soughtName[s], soughtBorn[s]);
                    if (points >= LEAST_FOUND && points > most && (familiesOf(heap[r]) >> other & 1) == 1) {
                        most = points;
                    }
                }
            }
            return most;
        }

        int mutualOf(int f) {
            int both = 0;
            for (int other = 0; other < MOST_FAMILIES; other++) {
                if ((foundBy[f] >> other & 1) == 1 && (foundBy[other] >> f & 1) == 1) {
                    both |= 1 << other;
                }
            }
            return both;
        }

        /** Parting alone takes findings away: what else changes only adds some. */
        private void findAnew() {
            for (int f = 0; f < MOST_FAMILIES; f++) {
                foundBy[f] = 0;
                kinOf[f] = 0;
            }
            for (int r = 0; r < size; r++) {
                noteFinding(r);
            }
        }

        private void noteFinding(int r) {
            for (int s = 0; s < seekings; s++) {
                noteIfFound(s, r);
            }
        }

        private void noteIfFound(int s, int r) {
            if (points(r, soughtName[s], soughtBorn[s]) < LEAST_FOUND) {
                return;
            }
            int f = seeker[s];
            int found = familiesOf(heap[r]) & ~(1 << f);
            foundBy[f] |= found;
            kinOf[f] |= found;
            for (int other = 0; other < MOST_FAMILIES; other++) {
                if ((found >> other & 1) == 1) {
                    kinOf[other] |= 1 << f;
                }
            }
        }

        private int familiesOf(int itsHeap) {
            int families = 0;
            for (int r = 0; r < size; r++) {
                if (heap[r] == itsHeap && family[r] != NONE) {
                    families |= 1 << family[r];
                }
            }
            return families;
        }
    }

    /** The TEXT, and the reader that finds its FAULT or makes code of it. */
    private static final class Text {
        private static final int AT_END = 0;
        private static final int NUMBER = 1;
        private static final int NAME = 2;
        private static final int CLAUSE = 3;
        private static final int AND = 4;
        private static final int OR = 5;
        private static final int NOT = 6;
        private static final int NO_TOKEN = 7;

        int length;
        int faultAt;
        int codes;
        final int[] code = new int[MOST_BYTES];
        final int[] first = new int[CLAUSES];
        final int[] last = new int[CLAUSES];
        private final int[] bytes = new int[MOST_BYTES];
        // The TOKENS and the end behind them: signs have their byte as kind.
        private final int[] kinds = new int[MOST_BYTES + 1];
        private final int[] values = new int[MOST_BYTES + 1];
        private final int[] starts = new int[MOST_BYTES + 1];
        private int tokens;
        private int next;

        boolean hasRoomFor(int n) {
            return length + n <= MOST_BYTES;
        }

        void addNumber(int n) {
            for (int shift = 24; shift >= 0 && length < MOST_BYTES; shift -= 8) {
                bytes[length] = n >>> shift & 255;
                length++;
            }
        }

        void parse() {
            splitTokens();
            faultAt = NONE;
            codes = 0;
            next = 0;
            for (int c = 0; c < CLAUSES; c++) {
                first[c] = NONE;
                last[c] = NONE;
            }
            for (int i = 0; i <= CLAUSES && faultAt == NONE && kinds[next] != AT_END; i++) {
                readClause();
            }
        }

        private void splitTokens() {
            tokens = 0;
            int behind = 0;
            for (int i = 0; i < length; i++) {
                int c = bytes[i];
                if (i < behind || c == ' ' || c == '\n') {
                    continue;
                }
                if (isLetter(c)) {
                    behind = splitWord(i);
                } else if (isDigit(c)) {
                    behind = splitNumber(i);
                } else {
                    addToken(isSign(c) ? c : NO_TOKEN, i, 0);
                }
            }
            addToken(AT_END, length, 0);
        }

        private int splitWord(int from) {
            int to = from;
            while (to < length && isLetter(bytes[to])) {
                to++;
            }
            int word = wordOf(from, to);
            if (word >= FIRST_NAME_WORD) {
                addToken(NAME, from, word - FIRST_NAME_WORD);
            } else if (word >= 0 && word < CLAUSES) {
                addToken(CLAUSE, from, word);
            } else {
                addToken(word == AND_WORD ? AND : word == OR_WORD ? OR : word == NOT_WORD ? NOT : NO_TOKEN, from, 0);
            }
            return to;
        }

        private int splitNumber(int from) {
            int to = from;
            int value = 0;
            while (to < length && isDigit(bytes[to])) {
                // A number too great stays so: its further digits can't make it overflow.
                if (value <= MOST_NUMBER) {
                    value = value * 10 + bytes[to] - '0';
                }
                to++;
            }
            addToken(value <= MOST_NUMBER ? NUMBER : NO_TOKEN, from, value);
            return to;
        }

        private void addToken(int kind, int start, int value) {
            if (tokens <= MOST_BYTES) {
                kinds[tokens] = kind;
                starts[tokens] = start;
                values[tokens] = value;
                tokens++;
            }
        }

        private void readClause() {
            int clause = values[next];
            if (kinds[next] != CLAUSE || clause < 0 || clause >= CLAUSES || first[clause] != NONE) {
                faultAt = starts[next];
                return;
            }
            first[clause] = codes;
            next++;
            if (clause == MUST || clause == SHOW) {
                readAny(0);
            } else {
                readSum(0);
            }
            last[clause] = codes;
            pass(';');
        }

        private void readAny(int opened) {
            readEach(opened);
            for (int i = 0; i < MOST_BYTES && isNext(OR); i++) {
                next++;
                readEach(opened);
                put(OR_CODE);
            }
        }

        private void readEach(int opened) {
            readHolds(opened);
            for (int i = 0; i < MOST_BYTES && isNext(AND); i++) {
                next++;
                readHolds(opened);
                put(AND_CODE);
            }
        }

        private void readHolds(int opened) {
            boolean opens = isNext(NOT) || isNext('[');
            if (opens && opened >= MOST_OPENED) {
                fail();
            } else if (isNext(NOT)) {
                next++;
                readHolds(opened + 1);
                put(NOT_CODE);
            } else if (isNext('[')) {
                next++;
                readAny(opened + 1);
                pass(']');
            } else {
                readSum(opened);
                int sign = isNext('<') ? '<' : isNext('>') ? '>' : '=';
                pass(sign);
                readSum(opened);
                put(sign);
            }
        }

        private void readSum(int opened) {
            readProduct(opened);
            for (int i = 0; i < MOST_BYTES && (isNext('+') || isNext('-')); i++) {
                int sign = kinds[next];
                next++;
                readProduct(opened);
                put(sign);
            }
        }

        private void readProduct(int opened) {
            readFactor(opened);
            for (int i = 0; i < MOST_BYTES && (isNext('*') || isNext('/')); i++) {
                int sign = kinds[next];
                next++;
                readFactor(opened);
                put(sign);
            }
        }

        private void readFactor(int opened) {
            if (isNext(NUMBER)) {
                put(NUMBER_CODE + values[next]);
                next++;
            } else if (isNext(NAME)) {
                put(values[next]);
                next++;
            } else if (isNext('(') && opened < MOST_OPENED) {
                next++;
                readSum(opened + 1);
                pass(')');
            } else {
                fail();
            }
        }

        /** Behind a FAULT nothing is next: so all that is being read comes to its end. */
        private boolean isNext(int kind) {
            return faultAt == NONE && next < tokens && kinds[next] == kind;
        }

        private void pass(int sign) {
            if (isNext(sign)) {
                next++;
            } else {
                fail();
            }
        }

        private void fail() {
            if (faultAt == NONE && next < tokens) {
                faultAt = starts[next];
            }
        }

        private void put(int itsCode) {
            if (codes < MOST_BYTES) {
                code[codes] = itsCode;
                codes++;
            }
        }

        private int wordOf(int from, int to) {
            int word = 0;
            int begin = 0;
            for (int i = 0; i < WORDS.length(); i++) {
                if (WORDS.charAt(i) == ' ') {
                    if (i - begin == to - from && isWordAt(begin, from, to)) {
                        return word;
                    }
                    word++;
                    begin = i + 1;
                }
            }
            return NONE;
        }

        private boolean isWordAt(int begin, int from, int to) {
            for (int i = 0; i < to - from; i++) {
                if (WORDS.charAt(begin + i) != bytes[from + i]) {
                    return false;
                }
            }
            return true;
        }

        private static boolean isLetter(int c) {
            return c >= 'a' && c <= 'z';
        }

        private static boolean isDigit(int c) {
            return c >= '0' && c <= '9';
        }

        private static boolean isSign(int c) {
            switch (c) {
                case '+': case '-': case '*': case '/':
                case '(': case ')': case '[': case ']':
                case '<': case '>': case '=': case ';':
                    return true;
                default:
                    return false;
            }
        }
    }

    /** The SHEETS, and what their CLAUSES tell when the values of the NAMES are given. */
    private static final class Laws {
        // No TEXT can open so much that more values wait than these.
        private static final int MOST_WAITING = 64;

        int size;
        // BESIDE: this SHEET's CLAUSES count in place of those IN FORCE.
        int instead = NONE;
        final int[] came = new int[MOST_SHEETS];
        final int[] struck = new int[MOST_SHEETS];
        private final int[][] code = new int[MOST_SHEETS][MOST_BYTES];
        private final int[][] first = new int[MOST_SHEETS][CLAUSES];
        private final int[][] last = new int[MOST_SHEETS][CLAUSES];
        private final int[] waiting = new int[MOST_WAITING];

        boolean has(int s) {
            return s >= 0 && s < size && s < MOST_SHEETS;
        }

        int enact(Text text, int day) {
            if (size >= MOST_SHEETS) {
                return NONE;
            }
            for (int i = 0; i < text.codes && i < MOST_BYTES; i++) {
                code[size][i] = text.code[i];
            }
            for (int c = 0; c < CLAUSES; c++) {
                first[size][c] = text.first[c];
                last[size][c] = text.last[c];
            }
            came[size] = day;
            struck[size] = NONE;
            size++;
            return size - 1;
        }

        boolean hasClause(int s, int clause) {
            return has(s) && clause >= 0 && clause < CLAUSES && first[s][clause] != NONE;
        }

        int inForce(int clause, int day) {
            if (hasClause(instead, clause)) {
                return instead;
            }
            for (int s = size - 1; s >= 0; s--) {
                boolean counts = came[s] <= day && (struck[s] == NONE || struck[s] > day);
                if (counts && hasClause(s, clause)) {
                    return s;
                }
            }
            return NONE;
        }

        static int unwritten(int clause) {
            switch (clause) {
                case LIMIT: return 30;
                case MUST: return 1;
                default: return 0;
            }
        }

        int valueOf(int s, int clause, int[] names) {
            if (!hasClause(s, clause)) {
                return unwritten(clause);
            }
            int top = 0;
            for (int i = first[s][clause]; i < last[s][clause] && i < MOST_BYTES; i++) {
                int step = code[s][i];
                if (step >= NUMBER_CODE || step < NAMES) {
                    if (top < MOST_WAITING) {
                        waiting[top] = step >= NUMBER_CODE ? step - NUMBER_CODE : names[step];
                        top++;
                    }
                } else if (step == NOT_CODE) {
                    if (top >= 1) {
                        waiting[top - 1] = 1 - waiting[top - 1];
                    }
                } else if (top >= 2) {
                    top--;
                    waiting[top - 1] = joined(step, waiting[top - 1], waiting[top]);
                }
            }
            return waiting[0];
        }

        private static int joined(int sign, int a, int b) {
            switch (sign) {
                case '+': return brought((long) a + b);
                case '-': return brought((long) a - b);
                case '*': return brought((long) a * b);
                case '/': return b == 0 ? 0 : a / b;
                case '<': return a < b ? 1 : 0;
                case '>': return a > b ? 1 : 0;
                case '=': return a == b ? 1 : 0;
                case AND_CODE: return a & b;
                case OR_CODE: return a | b;
                default: return 0;
            }
        }

        private static int brought(long value) {
            return value > MOST_VALUE ? MOST_VALUE : value < -MOST_VALUE ? -MOST_VALUE : (int) value;
        }
    }

    /** What stands NOW, and the questions that several calls ask of it. */
    private static final class Register {
        final Towns towns = new Towns();
        final Homes homes = new Homes();
        final Families families = new Families();
        final Records records = new Records();
        final Laws laws = new Laws();
        int now;
        int hallBeds;
        // HEADS of all that aren't GONE.
        int present;
        private final int[] names = new int[NAMES];

        boolean isIn(int f, int state) {
            return families.has(f) && families.state[f] == state;
        }

        boolean isHere(int f) {
            return families.has(f) && families.state[f] != GONE;
        }

        int headsIn(int state) {
            int heads = 0;
            for (int f = 0; f < families.size; f++) {
                if (families.state[f] == state) {
                    heads += families.heads[f];
                }
            }
            return heads;
        }

        void settle(int f, int h) {
            if (!isIn(f, IN_HALL) || !homes.has(h)) {
                return;
            }
            int t = homes.town[h];
            families.state[f] = HOUSED;
            families.home[f] = h;
            families.town[f] = t;
            homes.lodger[h] = f;
            towns.heads[t] += families.heads[f];
            towns.pupils[t] += families.pupils[f];
            towns.lodgers[t] |= 1 << f;
        }

        void unsettle(int f) {
            if (!isIn(f, HOUSED)) {
                return;
            }
            int t = families.town[f];
            homes.lodger[families.home[f]] = NONE;
            families.state[f] = IN_HALL;
            families.home[f] = NONE;
            families.town[f] = NONE;
            towns.heads[t] -= families.heads[f];
            towns.pupils[t] -= families.pupils[f];
            towns.lodgers[t] &= ~(1 << f);
        }

        void emptyEndingHomes() {
            for (int h = 0; h < homes.size; h++) {
                if (homes.till[h] == now) {
                    unsettle(homes.lodger[h]);
                }
            }
        }

        void countNights() {
            for (int f = 0; f < families.size; f++) {
                if (families.state[f] == IN_HALL) {
                    families.nights[f]++;
                }
            }
        }

        int kinIn(int f, int t) {
            return Integer.bitCount(records.kinOf[f] & towns.lodgers[t]);
        }

        int wishMet(int f, int t) {
            return families.wish[f] == t ? 1 : 0;
        }

        /** SEATS free for a FAMILY: its own PUPILS don't take them from it. */
        int seatsFor(int f, int t) {
            int own = families.town[f] == t ? families.pupils[f] : 0;
            return towns.seats[t] - towns.pupils[t] + own;
        }

        int barOf(int f, int h) {
            if (!families.has(f) || !homes.has(h)) {
                return NONE;
            }
            int t = homes.town[h];
            if (now < homes.from[h] || now > homes.till[h]) {
                return 1;
            }
            if (homes.lodger[h] != NONE && homes.lodger[h] != f) {
                return 2;
            }
            if (families.heads[f] > homes.rooms[h]) {
                return 3;
            }
            if (homes.stairs[h] == 1 && families.lame[f] == 1) {
                return 4;
            }
            if (families.pupils[f] > 0 && !hasSchoolFor(f, t)) {
                return 5;
            }
            if (homes.kept[h] != ANY_TONGUE && homes.kept[h] != families.tongue[f]) {
                return 6;
            }
            if (towns.full[t]) {
                return 7;
            }
            if (isTooNear(f, t)) {
                return 8;
            }
            return tells(MUST, f, h, NONE, 0) == 1 ? 0 : 9;
        }

        private boolean hasSchoolFor(int f, int t) {
            return towns.teaches(t, families.tongue[f]) && seatsFor(f, t) >= families.pupils[f];
        }

        private boolean isTooNear(int f, int t) {
            for (int other = 0; other < families.size; other++) {
                int itsTown = families.town[other];
                if (itsTown != NONE && towns.milesBetween(t, itsTown) < families.milesApart(f, other)) {
                    return true;
                }
            }
            return false;
        }

        int brokenBy(int f, int newTown) {
            int oldTown = families.town[f];
            int broken = 0;
            if (families.pupils[f] > 0 && newTown != oldTown) {
                broken |= BREAKS_SCHOOL;
            }
            if (towns.wants(oldTown, families.trade[f]) && !towns.wants(newTown, families.trade[f])) {
                broken |= BREAKS_WORK;
            }
            return broken;
        }

        int aheadOf(int f) {
            return tells(AHEAD, f, NONE, NONE, 0);
        }

        int limitOf(int f) {
            return tells(LIMIT, f, NONE, NONE, 0);
        }

        int lackOf(int t) {
            return tells(SHARE, NONE, NONE, t, 0) - towns.heads[t];
        }

        int sumOf(int t) {
            int sum = 0;
            for (int f = 0; f < families.size; f++) {
                if (families.town[f] == t) {
                    int asked = tells(SUM, f, families.home[f], NONE, 0);
                    sum += Math.max(0, Math.min(MOST_VALUE, asked));
                }
            }
            return sum;
        }

        boolean canAsk(int who) {
            return families.has(who) || who >= FIRST_TOWN_ASKING && towns.has(who - FIRST_TOWN_ASKING);
        }

        boolean isShown(int who, int f) {
            boolean hosts = who >= FIRST_TOWN_ASKING && families.town[f] == who - FIRST_TOWN_ASKING;
            return hosts || tells(SHOW, f, NONE, NONE, who == f ? 1 : 0) == 1;
        }

        private int tells(int clause, int f, int h, int t, int own) {
            int sheet = laws.inForce(clause, now);
            if (sheet == NONE) {
                return Laws.unwritten(clause);
            }
            for (int i = 0; i < NAMES; i++) {
                names[i] = 0;
            }
            names[ALL_NAME] = present;
            names[DAY_NAME] = now;
            names[OWN_NAME] = own;
            if (families.has(f)) {
                nameFamily(f);
                if (homes.has(h)) {
                    nameHome(f, h);
                }
            } else if (towns.has(t)) {
                names[SEATS_NAME] = towns.seats[t] - towns.pupils[t];
                names[BEDS_NAME] = towns.rooms[t];
            }
            return laws.valueOf(sheet, clause, names);
        }

        private void nameFamily(int f) {
            names[HEADS_NAME] = families.heads[f];
            names[PUPILS_NAME] = families.pupils[f];
            names[LAME_NAME] = families.lame[f];
            names[TONGUE_NAME] = families.tongue[f];
            names[TRADE_NAME] = families.trade[f];
            names[CLAN_NAME] = families.clan[f];
            names[NIGHTS_NAME] = families.nights[f];
        }

        private void nameHome(int f, int h) {
            int t = homes.town[h];
            names[WISH_NAME] = wishMet(f, t);
            names[KIN_NAME] = kinIn(f, t);
            names[ROOMS_NAME] = homes.rooms[h];
            names[STAIRS_NAME] = homes.stairs[h];
            names[MILES_NAME] = towns.milesBetween(t, families.wish[f]);
            names[SEATS_NAME] = seatsFor(f, t);
            names[WANTED_NAME] = towns.wants(t, families.trade[f]) ? 1 : 0;
            names[BEDS_NAME] = towns.rooms[t];
        }
    }

    /** PLACED, and WHY FAMILIES were PASSED as that was done last. */
    private static final class Placing {
        private final Register register;
        private final int[] order = new int[MOST_FAMILIES];
        private final int[] rankOf = new int[MOST_FAMILIES];
        private final int[][] whys = new int[MOST_FAMILIES][MOST_FAMILIES];
        private int inLine;
        private int known;

        Placing(Register itsRegister) {
            register = itsRegister;
        }

        void forgetWhys() {
            known = register.families.size;
            for (int f = 0; f < known; f++) {
                for (int other = 0; other < known; other++) {
                    whys[f][other] = NONE;
                }
            }
        }

        void lineUp() {
            inLine = 0;
            for (int f = 0; f < register.families.size; f++) {
                if (register.families.state[f] == IN_HALL) {
                    rankOf[f] = register.aheadOf(f);
                    putInLine(f);
                }
            }
        }

        private void putInLine(int f) {
            int at = inLine;
            for (int i = inLine; i > 0 && rankOf[order[i - 1]] < rankOf[f]; i--) {
                order[i] = order[i - 1];
                at = i - 1;
            }
            order[at] = f;
            inLine++;
        }

        int placeAll(boolean kept) {
            int many = 0;
            for (int i = 0; i < inLine; i++) {
                int h = homeFor(order[i]);
                if (h != NONE) {
                    if (kept) {
                        noteWhys(i, h);
                    }
                    register.settle(order[i], h);
                    many++;
                }
            }
            return many;
        }

        private int homeFor(int f) {
            int found = NONE;
            int most = 0;
            for (int h = 0; h < register.homes.size; h++) {
                if (register.barOf(f, h) == 0) {
                    int t = register.homes.town[h];
                    int worth = 1000 * register.kinIn(f, t) + 100 * register.wishMet(f, t) + register.lackOf(t);
                    if (found == NONE || worth > most) {
                        found = h;
                        most = worth;
                    }
                }
            }
            return found;
        }

        private void noteWhys(int place, int h) {
            for (int i = 0; i < place; i++) {
                int f = order[i];
                if (register.families.state[f] == IN_HALL) {
                    whys[f][order[place]] = register.barOf(f, h);
                }
            }
        }

        int takeBack() {
            int heads = 0;
            for (int i = 0; i < inLine; i++) {
                int f = order[i];
                if (register.families.state[f] == HOUSED) {
                    heads += register.families.heads[f];
                    register.unsettle(f);
                }
            }
            return heads;
        }

        int whyPassed(int f, int other) {
            return f >= 0 && f < known && other >= 0 && other < known ? whys[f][other] : NONE;
        }
    }

    /** BEST: all ways are tried in their order, but for those that can't be better than the best so far. */
    private static final class Choice {
        private final Register register;
        int families;
        int bestHeads;
        final int[] bestWay = new int[MOST_CHOSEN];
        private int bestPairs;
        private int bestWishes;
        private int chosen;
        private int homes;
        private final int[] family = new int[MOST_CHOSEN];
        private final int[] home = new int[MOST_CHOSEN];
        private final int[] homeBefore = new int[MOST_CHOSEN];
        private final int[] way = new int[MOST_CHOSEN];
        private final int[] headsLeft = new int[MOST_CHOSEN + 1];
        private final int[] pairsLeft = new int[MOST_CHOSEN + 1];
        private final int[] wishesLeft = new int[MOST_CHOSEN + 1];

        Choice(Register itsRegister) {
            register = itsRegister;
        }

        /** Takes over what is asked for: false if that can't be asked. */
        boolean takes(int familyBits, int homeBits) {
            families = unpacked(familyBits, register.families.size, family);
            homes = unpacked(homeBits, register.homes.size, home);
            chosen = familyBits;
            for (int i = 0; i < families; i++) {
                if (!register.isHere(family[i])) {
                    return false;
                }
            }
            return families > 0 && homes > 0;
        }

        /** How many numbers the bits hold, which are put into the row; 0 if they can't be taken. */
        private static int unpacked(int bits, int size, int[] row) {
            if (bits >>> size != 0 || Integer.bitCount(bits) > row.length) {
                return 0;
            }
            int many = 0;
            for (int i = 0; i < size && many < row.length; i++) {
                if ((bits >> i & 1) == 1) {
                    row[many] = i;
                    many++;
                }
            }
            return many;
        }

        void search() {
            for (int i = 0; i < families; i++) {
                homeBefore[i] = register.families.home[family[i]];
                register.unsettle(family[i]);
            }
            countLeft();
            bestHeads = NONE;
            tryFrom(0, 0, 0, 0);
            for (int i = 0; i < families; i++) {
                if (homeBefore[i] != NONE) {
                    register.settle(family[i], homeBefore[i]);
                }
            }
        }

        /** What all from a place on can still bring, at the most. */
        private void countLeft() {
            headsLeft[families] = 0;
            pairsLeft[families] = 0;
            wishesLeft[families] = 0;
            int ahead = chosen;
            for (int i = families - 1; i >= 0; i--) {
                int f = family[i];
                ahead &= ~(1 << f);
                headsLeft[i] = headsLeft[i + 1] + register.families.heads[f];
                pairsLeft[i] = pairsLeft[i + 1] + Integer.bitCount(register.records.kinOf[f] & ahead);
                wishesLeft[i] = wishesLeft[i + 1] + (register.families.wish[f] == NONE ? 0 : 1);
            }
        }

        private void tryFrom(int i, int heads, int pairs, int wishes) {
            if (!isBetter(heads + headsLeft[i], pairs + pairsLeft[i], wishes + wishesLeft[i])) {
                return;
            }
            if (i >= families) {
                keepWay(heads, pairs, wishes);
                return;
            }
            for (int j = 0; j < homes; j++) {
                if (register.barOf(family[i], home[j]) == 0) {
                    tryHome(i, home[j], heads, pairs, wishes);
                }
            }
            way[i] = NONE;
            tryFrom(i + 1, heads, pairs, wishes);
        }

        private void tryHome(int i, int h, int heads, int pairs, int wishes) {
            int f = family[i];
            int t = register.homes.town[h];
            int withKin = Integer.bitCount(register.records.kinOf[f] & chosen & register.towns.lodgers[t]);
            way[i] = h;
            register.settle(f, h);
            tryFrom(i + 1, heads + register.families.heads[f], pairs + withKin, wishes + register.wishMet(f, t));
            register.unsettle(f);
        }

        private boolean isBetter(int heads, int pairs, int wishes) {
            if (heads != bestHeads) {
                return heads > bestHeads;
            }
            if (pairs != bestPairs) {
                return pairs > bestPairs;
            }
            return wishes > bestWishes;
        }

        private void keepWay(int heads, int pairs, int wishes) {
            bestHeads = heads;
            bestPairs = pairs;
            bestWishes = wishes;
            for (int i = 0; i < families; i++) {
                bestWay[i] = way[i];
            }
        }
    }

    /** What is kept of the DAYS that ended. */
    private static final class Book {
        final int[][] where = new int[MOST_FAMILIES][LAST_DAY];
        private final int[][] sums = new int[MOST_TOWNS][LAST_DAY];

        void keepFamilies(Register register) {
            int day = register.now;
            for (int f = 0; f < register.families.size && day < LAST_DAY; f++) {
                switch (register.families.state[f]) {
                    case IN_HALL: where[f][day] = NIGHT_IN_HALL; break;
                    case HOUSED: where[f][day] = register.families.home[f]; break;
                    default: where[f][day] = NIGHT_GONE;
                }
            }
        }

        void keepSums(Register register) {
            int day = register.now;
            for (int t = 0; t < register.towns.size && day < LAST_DAY; t++) {
                sums[t][day] = register.sumOf(t);
                register.towns.sums[t] += sums[t][day];
            }
        }

        int lodgerOf(int home, int day, Families families) {
            for (int f = 0; f < families.size; f++) {
                if (families.came[f] <= day && where[f][day] == home) {
                    return f;
                }
            }
            return NONE;
        }

        int numberOf(int day, int number, Families families) {
            if (number == 4) {
                return sumOfTowns(day);
            }
            int heads = 0;
            for (int f = 0; f < families.size; f++) {
                if (families.came[f] <= day && (number == 3 || stateOn(f, day) == number)) {
                    heads += families.heads[f];
                }
            }
            return heads;
        }

        private int stateOn(int f, int day) {
            switch (where[f][day]) {
                case NIGHT_IN_HALL: return IN_HALL;
                case NIGHT_GONE: return GONE;
                default: return HOUSED;
            }
        }

        private int sumOfTowns(int day) {
            int sum = 0;
            for (int t = 0; t < MOST_TOWNS; t++) {
                sum += sums[t][day];
            }
            return sum;
        }

        int checked(int day, int number, int mask, Families families) {
            int inHall = altered(day, IN_HALL, number, mask, families);
            int housed = altered(day, HOUSED, number, mask, families);
            int gone = altered(day, GONE, number, mask, families);
            if (inHall + housed + gone != altered(day, 3, number, mask, families)) {
                return 1;
            }
            return altered(day, 4, number, mask, families) != sumOfTowns(day) ? 2 : 0;
        }

        private int altered(int day, int which, int number, int mask, Families families) {
            int itself = numberOf(day, which, families);
            return which == number ? itself ^ mask : itself;
        }
    }

    /** Boats and BEDS FORETOLD, added up by the DAYS for which they were told. */
    private static final class Forecast {
        int boats;
        int bedTellings;
        final int[] low = new int[LAST_DAY + 1];
        final int[] high = new int[LAST_DAY + 1];
        private final int[] bedsMore = new int[LAST_DAY + 1];

        int addBoat(int day, int itsLow, int itsHigh) {
            if (boats >= MOST_TELLINGS) {
                return NONE;
            }
            low[day] += itsLow;
            high[day] += itsHigh;
            boats++;
            return boats;
        }

        int addBeds(int day, int n) {
            if (bedTellings >= MOST_TELLINGS) {
                return NONE;
            }
            bedsMore[day] += n;
            bedTellings++;
            return bedTellings;
        }

        int mostAbove(int[] byBoat, int inHall, int beds, int from, int to) {
            int heads = inHall;
            int bedsThen = beds;
            int most = 0;
            for (int day = from; day <= to; day++) {
                heads += byBoat[day];
                bedsThen += bedsMore[day];
                most = Math.max(most, heads - Math.max(0, bedsThen));
            }
            return most;
        }

        int firstAbove(int inHall, int beds, int from, int to) {
            int heads = inHall;
            int bedsThen = beds;
            for (int day = from; day <= to; day++) {
                heads += high[day];
                bedsThen += bedsMore[day];
                if (heads - Math.max(0, bedsThen) > 0) {
                    return day;
                }
            }
            return NONE;
        }
    }
}
