import java.util.Arrays;

/** A town on the lee of a dune; shared/DOC.md tells what each call answers. */
public final class WalkingTown {
    public static final int NONE = -1, BAD = -2, NOT = -3, FULL = -4;

    private static final int COLUMNS = 4;
    private static final int ROWS = 100;
    private static final int WEEKS = 52;
    private static final int TEXTS = 2;
    private static final int MOST_BYTES = 60;
    private static final int MOST_BYTE = 255;
    private static final int MOST_WIND = 9;
    private static final int MOST_BEGIN = 99;
    private static final int MOST_HANDS = 99;
    private static final int FIRST_HANDS = 9;
    private static final int MOST_HOUSES = 10;
    private static final int MOST_ASKED_MOVES = 40;
    private static final int MOST_ASKED_TAKE = 99;
    private static final int MOST_PAIRS = 10;
    private static final int MOST_WELLS = 8;
    private static final int MOST_DEBTS = 20;
    private static final int MOST_AMOUNT = 99;
    private static final int MOST_CHURCH = 999;
    private static final int MOST_PARTS = 9;
    private static final int MOST_LIKELY_WEEKS = 9;
    private static final int ENDLESS = 999;
    private static final int SHEETS = 4;
    private static final int FORMS = 3;
    private static final int MOST_ITEMS = 60;

    private static final int STONE_KIND = 0, TENT_KIND = 1, RUNNERS_KIND = 2, CELLAR_KIND = 3;
    private static final int WELL_DONE = 0, IS_COVERED = 1, TOO_FEW_HANDS = 2, NOT_TO_BE_MADE = 3;
    private static final int NULL_FOUND = 1, INDEX_FOUND = 2, CAST_FOUND = 3, STORE_FOUND = 4, SIZE_FOUND = 5;

    /** A refusal -x is told as this and x more, where the answer is a long. */
    private static final long LEAST_LONG = 1L << 63;
    private static final int LEAST_INT = 1 << 31;
    /** A refusal -x is told as this less x, where any number is told. */
    private static final int BELOW_ANY = -10000;

    private final Text townText = new Text();
    private final Text movesText = new Text();
    private final Town town = new Town();
    private final Told told = new Told();
    private final Walk walk = new Walk();
    private final Town swappedTown = new Town();
    private final Walk swappedWalk = new Walk();
    private final Stand stand = new Stand();
    private final Sand sand = new Sand();
    private final Pairs pairs = new Pairs();
    private final Marks wells = new Marks(MOST_WELLS);
    private final Marks debts = new Marks(MOST_DEBTS);
    private final Sheet[] sheets = new Sheet[SHEETS];
    private int hands = FIRST_HANDS;
    private int finding = 0;

    public WalkingTown() {
        for (int s = 0; s < SHEETS; s++) {
            sheets[s] = new Sheet();
        }
    }

    // ---- winds, texts

    public int wind(int week, int v) {
        if (!isWeek(week) || !isWithin(v, MOST_WIND)) {
            return BAD;
        }
        int was = sand.winds[week];
        sand.winds[week] = v;
        return was;
    }

    public int read(int s) {
        if (!isSheet(s)) {
            return BAD;
        }
        Sheet sheet = sheets[s];
        if (sheet.isLost) {
            return found(NULL_FOUND);
        }
        int most = Math.min(sheet.size, WEEKS);
        int week = 0;
        while (week < most && isWithin(sheet.items[week], MOST_WIND)) {
            sand.winds[week] = sheet.items[week];
            week++;
        }
        return week;
    }

    public int set(int what, int v) {
        int was = BAD;
        if (what == 0 && isWithin(v, MOST_BEGIN)) {
            was = sand.begin;
            sand.begin = v;
        } else if (what == 1 && isWithin(v, MOST_HANDS)) {
            was = hands;
            hands = v;
        }
        return was;
    }

    public int foot(int week) {
        return isWeek(week) ? sand.footIn(week) : BAD;
    }

    public int type(int text, int b) {
        if (!isText(text) || !isWithin(b, MOST_BYTE)) {
            return BAD;
        }
        Text typed = textOf(text);
        if (typed.length >= MOST_BYTES) {
            return FULL;
        }
        typed.append(b);
        readAgain(text);
        return typed.length;
    }

    public int wipe(int text) {
        if (!isText(text)) {
            return BAD;
        }
        Text wiped = textOf(text);
        int had = wiped.length;
        wiped.length = 0;
        readAgain(text);
        return had;
    }

    public int fault(int text) {
        if (!isText(text)) {
            return BAD;
        }
        return text == 0 ? town.firstFault : told.firstFault;
    }

    public int house(int house, int what) {
        if (!isHouse(house)) {
            return BAD;
        }
        switch (what) {
            case 0: return town.kinds[house];
            case 1: return town.columns[house];
            case 2: return town.rows[house];
            default: return BAD;
        }
    }

    public int takes(int house, int k) {
        if (!isHouse(house) || !isWithin(k, MOST_ASKED_TAKE)) {
            return BAD;
        }
        return town.handsFor(house, k);
    }

    // ---- moves

    public int judged(int what) {
        if (!isWithin(what, 1)) {
            return BAD;
        }
        stand.begin(town);
        int from = 0;
        for (int week = 0; week < WEEKS; week++) {
            int to = told.endOfWeek(from, week);
            int why = whyWrong(from, to, sand.footIn(week));
            if (why != WELL_DONE) {
                return what == 0 ? week : why;
            }
            from = to;
        }
        return what == 0 ? NONE : WELL_DONE;
    }

    public int ends(int house) {
        if (!isHouse(house)) {
            return BAD;
        }
        stand.begin(town);
        for (int i = 0; i < told.size; i++) {
            stand.move(town, told.houses[i]);
        }
        return stand.rows[house];
    }

    public int queue(int moves, int house) {
        if (!isWithin(moves, MOST_ASKED_MOVES) || house != NONE && !isHouse(house)) {
            return BAD;
        }
        return house == NONE ? walk.nextBehind(moves) : walk.rowBehind(town, moves, house);
    }

    public int needs(int week) {
        return isWeek(week) ? walk.movesAheadOf(sand.footIn(week)) : BAD;
    }

    public int fewest(int week) {
        return isWeek(week) ? fewestHands(walk, week) : BAD;
    }

    public int turn(int week, int k) {
        if (!isWeek(week) || k < 0) {
            return BAD;
        }
        int few = fewestHands(walk, week);
        if (few == NOT) {
            return NOT;
        }
        int all = walk.movesAheadOf(sand.footIn(week));
        int made = 0;
        for (int w = 0; w <= week; w++) {
            made = walk.madeInWeek(made, all, few);
            if (k < made) {
                return w;
            }
        }
        return NONE;
    }

    // ---- neighbours, wells

    public int owed(int a, int b) {
        if (!isWithin(a, MOST_HOUSES - 1) || !isWithin(b, MOST_HOUSES - 1) || a == b) {
            return BAD;
        }
        return pairs.add(a, b) ? pairs.size : FULL;
    }

    public int broken(int moves, int what) {
        if (!isWithin(moves, MOST_ASKED_MOVES) || !isWithin(what, 1)) {
            return BAD;
        }
        stand.begin(town);
        int now = pairs.apart(town, stand.rows);
        int fewestApart = now;
        int best = 0;
        for (int m = 1; m <= moves; m++) {
            walk.step(m - 1, stand.rows);
            now = pairs.apart(town, stand.rows);
            if (now < fewestApart) {
                fewestApart = now;
                best = m;
            }
        }
        return what == 0 ? now : best;
    }

    public int well(int column, int row) {
        if (!isPlot(column, row)) {
            return BAD;
        }
        return wells.add(column, row, 0) ? wells.size - 1 : FULL;
    }

    public int met(int week) {
        return isWeek(week) ? wellsMet(sand.footIn(week)) : BAD;
    }

    public int dry(int week) {
        if (!isWeek(week)) {
            return BAD;
        }
        int run = 0;
        int longest = 0;
        for (int w = 0; w <= week; w++) {
            int here = wellsMet(sand.footIn(w));
            if (here == NOT) {
                return NOT;
            }
            run = here == 0 ? run + 1 : 0;
            longest = Math.max(longest, run);
        }
        return longest;
    }

    public int sold(int a, int b, int week) {
        if (!isHouse(a) || !isHouse(b) || a == b || !isWeek(week)) {
            return BELOW_ANY + BAD;
        }
        swappedTown.swapOf(town, a, b);
        swappedWalk.plan(swappedTown);
        int now = fewestHands(walk, week);
        int then = fewestHands(swappedWalk, week);
        if (now == NOT || then == NOT) {
            return BELOW_ANY + NOT;
        }
        return now - then;
    }

    // ---- debts, the church

    public int debt(int column, int row, int amount) {
        if (!isPlot(column, row) || amount < 1 || amount > MOST_AMOUNT) {
            return BAD;
        }
        return debts.add(column, row, amount) ? debts.size : FULL;
    }

    public int owes(int house, int week) {
        if (!isHouse(house) || !isWeek(week)) {
            return BAD;
        }
        int foot = sand.footIn(week);
        int moves = walk.movesAheadOf(foot);
        if (moves == NOT) {
            return NOT;
        }
        int row = walk.rowBehind(town, moves, house);
        return row < foot ? 0 : debts.amountOn(town.columns[house], row);
    }

    public int lost(int week) {
        return isWeek(week) ? debts.amountBelow(sand.footIn(week)) : BAD;
    }

    public int church(int c, int hands, int week) {
        if (c < 1 || c > MOST_CHURCH || !isWithin(hands, MOST_CHURCH) || !isWeek(week)) {
            return BAD;
        }
        int most = Math.min(MOST_PARTS, week + 1);
        for (int n = 1; n <= most; n++) {
            if (roundedUp(c, n) + n <= hands) {
                return n;
            }
        }
        return NONE;
    }

    public long likely(int k, int row, int n, int what) {
        boolean isAsked = isWithin(k, MOST_WIND) && isWithin(row, ROWS - 1)
                && isWithin(n, MOST_LIKELY_WEEKS) && isWithin(what, 1);
        if (!isAsked) {
            return LEAST_LONG - BAD;
        }
        sand.spread(k, n);
        long above = sand.waysOver(row);
        // FOOT is beyond ROW -1 by every way.
        long below = sand.waysOver(-1);
        long common = Math.max(1L, commonDivisor(above, below));
        return what == 0 ? above / common : below / common;
    }

    public int stone(int row, int week, int a, int b, int what) {
        boolean isAsked = isWithin(row, ROWS - 1) && isWeek(week)
                && isWithin(a, MOST_WIND) && isWithin(b, MOST_WIND) && a <= b && isWithin(what, 1);
        if (!isAsked) {
            return BAD;
        }
        int depth = sand.footIn(week) - row;
        if (depth < 1 || b < 1) {
            return NONE;
        }
        // The winds since take less than the depth, with that week's own no less than it.
        if (what == 0) {
            return roundedUp(depth, b) - 1;
        }
        return a < 1 ? ENDLESS : (depth - 1) / a;
    }

    // ---- sheets

    public int sheet(int s, int form, int n) {
        if (!isSheet(s) || !isForm(form) || n > MOST_ITEMS) {
            return BAD;
        }
        if (n < 0) {
            return found(SIZE_FOUND);
        }
        sheets[s].renew(form, n);
        return n;
    }

    public int lose(int s) {
        if (!isSheet(s)) {
            return BAD;
        }
        if (sheets[s].isLost) {
            return found(NULL_FOUND);
        }
        sheets[s].isLost = true;
        return sheets[s].size;
    }

    public int put(int s, int form, int i, int v) {
        if (!isSheet(s) || !isForm(form)) {
            return BAD;
        }
        int amiss = sheets[s].amissAt(form, i);
        if (amiss != 0) {
            return found(amiss);
        }
        sheets[s].keep(i, v);
        return 1;
    }

    public int get(int s, int form, int i) {
        if (!isSheet(s) || !isForm(form)) {
            return LEAST_INT;
        }
        int amiss = sheets[s].amissAt(form, i);
        if (amiss != 0) {
            finding = amiss;
            return LEAST_INT;
        }
        return sheets[s].items[i];
    }

    public int copy(int s, int i, int t, int j, int n) {
        if (!isSheet(s) || !isSheet(t)) {
            return BAD;
        }
        Sheet from = sheets[s];
        Sheet to = sheets[t];
        if (from.isLost || to.isLost) {
            return found(NULL_FOUND);
        }
        if (from.form != to.form) {
            return found(STORE_FOUND);
        }
        if (!from.hasRange(i, n) || !to.hasRange(j, n)) {
            return found(INDEX_FOUND);
        }
        System.arraycopy(from.items, i, to.items, j, n);
        return 1;
    }

    public int write(int moves, int s) {
        if (!isWithin(moves, MOST_ASKED_MOVES) || !isSheet(s)) {
            return BAD;
        }
        Sheet sheet = sheets[s];
        if (sheet.isLost) {
            return found(NULL_FOUND);
        }
        int many = Math.min(sheet.size, town.size);
        for (int house = 0; house < many; house++) {
            sheet.keep(house, walk.rowBehind(town, moves, house));
        }
        return many;
    }

    public int count(int what) {
        switch (what) {
            case 0: return town.size;
            case 1: return townText.length;
            case 2: return movesText.length;
            case 3: return told.size;
            case 4: return pairs.size;
            case 5: return wells.size;
            case 6: return debts.size;
            case 7: return hands;
            case 8: return finding;
            default: return BAD;
        }
    }

    public long digest() {
        long h = 17;
        for (int what = 0; what <= 7; what++) {
            h = mixed(h, count(what));
        }
        for (int text = 0; text < TEXTS; text++) {
            h = mixed(h, fault(text));
        }
        for (int house = 0; house < town.size; house++) {
            h = withHouse(h, house);
        }
        h = mixed(h, judged(0));
        h = mixed(h, judged(1));
        for (int week = 0; week <= 20; week += 10) {
            h = withWeek(h, week);
        }
        h = mixed(h, turn(20, 0));
        h = mixed(h, turn(20, 5));
        h = mixed(h, queue(9, NONE));
        h = mixed(h, broken(12, 0));
        h = mixed(h, broken(12, 1));
        return town.size < 2 ? h : mixed(h, sold(0, 1, 20));
    }

    private long withHouse(long before, int house) {
        long h = before;
        for (int what = 0; what <= 2; what++) {
            h = mixed(h, house(house, what));
        }
        h = mixed(h, ends(house));
        h = mixed(h, queue(9, house));
        return mixed(h, owes(house, 10));
    }

    private long withWeek(long before, int week) {
        long h = mixed(before, foot(week));
        h = mixed(h, needs(week));
        h = mixed(h, fewest(week));
        h = mixed(h, met(week));
        h = mixed(h, dry(week));
        return mixed(h, lost(week));
    }

    private static long mixed(long h, long answer) {
        return 31 * h + answer;
    }

    private static boolean isWithin(int v, int most) {
        return v >= 0 && v <= most;
    }

    private static boolean isWeek(int week) {
        return isWithin(week, WEEKS - 1);
    }

    private static boolean isText(int text) {
        return isWithin(text, TEXTS - 1);
    }

    private static boolean isSheet(int s) {
        return isWithin(s, SHEETS - 1);
    }

    private static boolean isForm(int form) {
        return isWithin(form, FORMS - 1);
    }

    private static boolean isPlot(int column, int row) {
        return isWithin(column, COLUMNS - 1) && isWithin(row, ROWS - 1);
    }

    private boolean isHouse(int house) {
        return isWithin(house, town.size - 1);
    }

    private Text textOf(int text) {
        return text == 0 ? townText : movesText;
    }

    private int found(int number) {
        finding = number;
        return -10 - number;
    }

    /** MOVES are read again with THE TOWN, too: which HOUSES there are decides whether they are well. */
    private void readAgain(int text) {
        if (text == 0) {
            town.readFrom(townText);
            walk.plan(town);
        }
        told.readFrom(movesText, town.size);
    }

    /** Why MOVES from .. to - 1, made in one WEEK, and the sand behind them are not well. */
    private int whyWrong(int from, int to, int foot) {
        int taken = 0;
        for (int i = from; i < to; i++) {
            int takes = stand.move(town, told.houses[i]);
            if (takes == NOT) {
                return NOT_TO_BE_MADE;
            }
            taken += takes;
        }
        if (taken > hands) {
            return TOO_FEW_HANDS;
        }
        return stand.isCovered(foot) ? IS_COVERED : WELL_DONE;
    }

    /** More HANDS never make fewer MOVES by any WEEK, so the least that do can be found by halving. */
    private int fewestHands(Walk along, int week) {
        int all = along.movesAheadOf(sand.footIn(week));
        if (all == NOT) {
            return NOT;
        }
        int low = 0;
        int high = along.handsForFirst(all);
        for (int step = 0; step < 32 && low < high; step++) {
            int middle = (low + high) / 2;
            if (keepsAhead(along, week, all, middle)) {
                high = middle;
            } else {
                low = middle + 1;
            }
        }
        return low;
    }

    private boolean keepsAhead(Walk along, int week, int all, int few) {
        int foot = sand.begin;
        int made = 0;
        int due = 0;
        for (int w = 0; w <= week; w++) {
            foot += sand.winds[w];
            made = along.madeInWeek(made, all, few);
            due = along.dueAheadOf(due, all, foot);
            if (made < due) {
                return false;
            }
        }
        return true;
    }

    private int wellsMet(int foot) {
        int moves = walk.movesAheadOf(foot);
        return moves == NOT ? NOT : wells.inRows(foot, walk.greatest[moves]);
    }

    private static int roundedUp(int v, int parts) {
        int by = Math.max(1, parts);
        return (v + by - 1) / by;
    }

    private static long commonDivisor(long a, long b) {
        long greater = a;
        long less = b;
        for (int step = 0; step < 200 && less != 0; step++) {
            long rest = greater % less;
            greater = less;
            less = rest;
        }
        return greater;
    }

    /** The bytes that were typed. */
    private static final class Text {
        private final int[] bytes = new int[MOST_BYTES];
        private int length = 0;

        void append(int b) {
            if (length < MOST_BYTES) {
                bytes[length] = b;
                length++;
            }
        }

        /** The byte at a place, NONE at the end and beyond it. */
        int byteAt(int place) {
            return place >= 0 && place < length ? bytes[place] : NONE;
        }

        /** The figure at a place, NONE where there is none. */
        int figureAt(int place) {
            int b = byteAt(place);
            return b >= '0' && b <= '9' ? b - '0' : NONE;
        }
    }

    /** THE TOWN as its text tells it. */
    private static final class Town {
        private final int[] kinds = new int[MOST_HOUSES];
        private final int[] columns = new int[MOST_HOUSES];
        private final int[] rows = new int[MOST_HOUSES];
        private int size = 0;
        private int firstFault = NONE;

        void readFrom(Text text) {
            size = 0;
            firstFault = text.length == 0 ? NONE : readParts(text);
            if (firstFault != NONE) {
                size = 0;
            }
        }

        private int readParts(Text text) {
            int place = 0;
            for (int n = 0; n < MOST_HOUSES; n++) {
                int wrong = readPart(text, place);
                if (wrong != NONE) {
                    return wrong;
                }
                place += 4;
                if (place == text.length) {
                    return NONE;
                }
                if (text.byteAt(place) != ';') {
                    return place;
                }
                place++;
            }
            return place;
        }

        private int readPart(Text text, int place) {
            int kind = kindOf(text.byteAt(place));
            if (kind == NONE) {
                return place;
            }
            int column = text.figureAt(place + 1);
            if (!isWithin(column, COLUMNS - 1)) {
                return place + 1;
            }
            int tens = text.figureAt(place + 2);
            if (tens == NONE) {
                return place + 2;
            }
            int ones = text.figureAt(place + 3);
            if (ones == NONE) {
                return place + 3;
            }
            int row = 10 * tens + ones;
            if (isTaken(column, row)) {
                return place + 2;
            }
            kinds[size] = kind;
            columns[size] = column;
            rows[size] = row;
            size++;
            return NONE;
        }

        private static int kindOf(int letter) {
            switch (letter) {
                case 's': return STONE_KIND;
                case 't': return TENT_KIND;
                case 'r': return RUNNERS_KIND;
                case 'c': return CELLAR_KIND;
                default: return NONE;
            }
        }

        private boolean isTaken(int column, int row) {
            for (int house = 0; house < size; house++) {
                if (columns[house] == column && rows[house] == row) {
                    return true;
                }
            }
            return false;
        }

        /** Becomes another TOWN in which two HOUSES have changed their PLOTS. */
        void swapOf(Town other, int a, int b) {
            size = other.size;
            for (int house = 0; house < size; house++) {
                int place = house == a ? b : house == b ? a : house;
                kinds[house] = other.kinds[house];
                columns[house] = other.columns[place];
                rows[house] = other.rows[place];
            }
        }

        /** HANDS that a HOUSE takes when it has been moved k times. */
        int handsFor(int house, int k) {
            switch (kinds[house]) {
                case STONE_KIND: return 4;
                case RUNNERS_KIND: return k == 0 ? 2 : 1;
                case CELLAR_KIND: return 3 + k;
                default: return 1;
            }
        }
    }

    /** The MOVES as their text tells them. */
    private static final class Told {
        private static final int MOST_TOLD = 15;

        private final int[] weeks = new int[MOST_TOLD];
        private final int[] houses = new int[MOST_TOLD];
        private int size = 0;
        private int firstFault = NONE;

        void readFrom(Text text, int thereAre) {
            size = 0;
            firstFault = text.length == 0 ? NONE : readParts(text, thereAre);
            if (firstFault != NONE) {
                size = 0;
            }
        }

        private int readParts(Text text, int thereAre) {
            int place = 0;
            for (int n = 0; n < MOST_TOLD; n++) {
                int wrong = readPart(text, place, thereAre);
                if (wrong != NONE) {
                    return wrong;
                }
                place += 3;
                if (place == text.length) {
                    return NONE;
                }
                if (text.byteAt(place) != ';') {
                    return place;
                }
                place++;
            }
            return place;
        }

        private int readPart(Text text, int place, int thereAre) {
            int tens = text.figureAt(place);
            if (tens == NONE) {
                return place;
            }
            int ones = text.figureAt(place + 1);
            if (ones == NONE) {
                return place + 1;
            }
            int week = 10 * tens + ones;
            int ahead = size == 0 ? 0 : weeks[size - 1];
            if (!isWeek(week) || week < ahead) {
                return place;
            }
            int house = text.figureAt(place + 2);
            if (house == NONE || house >= thereAre) {
                return place + 2;
            }
            weeks[size] = week;
            houses[size] = house;
            size++;
            return NONE;
        }

        /** The first of the MOVES from one on that is of a later WEEK. */
        int endOfWeek(int from, int week) {
            int to = from;
            while (to < size && weeks[to] <= week) {
                to++;
            }
            return to;
        }
    }

    /** HOUSES as they stand behind some MOVES. */
    private static final class Stand {
        private final int[] rows = new int[MOST_HOUSES];
        private final int[] moved = new int[MOST_HOUSES];
        private int size = 0;

        void begin(Town town) {
            size = town.size;
            for (int house = 0; house < size; house++) {
                rows[house] = town.rows[house];
                moved[house] = 0;
            }
        }

        /** The HANDS that it took; NOT, with all as it was. */
        int move(Town town, int house) {
            int front = rows[house];
            for (int other = 0; other < size; other++) {
                if (town.columns[other] == town.columns[house]) {
                    front = Math.max(front, rows[other]);
                }
            }
            if (front >= ROWS - 1) {
                return NOT;
            }
            int takes = town.handsFor(house, moved[house]);
            rows[house] = front + 1;
            moved[house]++;
            return takes;
        }

        int hindmost() {
            int next = NONE;
            for (int house = 0; house < size; house++) {
                if (next == NONE || rows[house] < rows[next]) {
                    next = house;
                }
            }
            return next;
        }

        int greatestRow() {
            int greatest = NONE;
            for (int house = 0; house < size; house++) {
                greatest = Math.max(greatest, rows[house]);
            }
            return greatest;
        }

        boolean isCovered(int foot) {
            int next = hindmost();
            return next != NONE && rows[next] < foot;
        }
    }

    /** All MOVES that the QUEUE makes from THE TOWN on, up to one that is NOT to be made. */
    private static final class Walk {
        /** Each MOVE makes one COLUMN longer by a ROW, so there are fewer than PLOTS. */
        private static final int MOST_MOVES = COLUMNS * ROWS;
        /** Above every FOOT: without HOUSES none is ever COVERED. */
        private static final int NO_ROW = 1000;

        private final int[] movers = new int[MOST_MOVES];
        private final int[] targets = new int[MOST_MOVES];
        private final int[] hands = new int[MOST_MOVES];
        /** The least and the greatest ROW of a HOUSE behind so many MOVES. */
        private final int[] least = new int[MOST_MOVES];
        private final int[] greatest = new int[MOST_MOVES];
        private final Stand stand = new Stand();
        private int size = 0;

        /** It stands as planned without HOUSES, so that who makes one need not hand it a TOWN. */
        Walk() {
            movers[0] = NONE;
            least[0] = NO_ROW;
            greatest[0] = NONE;
        }

        void plan(Town town) {
            stand.begin(town);
            for (int m = 0; m < MOST_MOVES; m++) {
                int house = stand.hindmost();
                size = m;
                movers[m] = house;
                least[m] = house == NONE ? NO_ROW : stand.rows[house];
                greatest[m] = stand.greatestRow();
                int takes = house == NONE ? NOT : stand.move(town, house);
                if (takes == NOT) {
                    return;
                }
                targets[m] = stand.rows[house];
                hands[m] = takes;
            }
        }

        int nextBehind(int moves) {
            return movers[Math.min(moves, size)];
        }

        int rowBehind(Town town, int moves, int house) {
            int row = town.rows[house];
            int made = Math.min(moves, size);
            for (int m = 0; m < made; m++) {
                if (movers[m] == house) {
                    row = targets[m];
                }
            }
            return row;
        }

        /** Makes the MOVE with a number; one that is NOT to be made is left aside. */
        void step(int m, int[] rows) {
            if (m < size) {
                rows[movers[m]] = targets[m];
            }
        }

        /** The fewest MOVES behind which no HOUSE is COVERED; NOT. */
        int movesAheadOf(int foot) {
            int due = dueAheadOf(0, size, foot);
            return least[due] < foot ? NOT : due;
        }

        int dueAheadOf(int due, int all, int foot) {
            int m = due;
            while (m < all && least[m] < foot) {
                m++;
            }
            return m;
        }

        /** How many MOVES are made in all, when a WEEK more has gone by with so many HANDS. */
        int madeInWeek(int made, int all, int few) {
            int m = made;
            int left = few;
            while (m < all && hands[m] <= left) {
                left -= hands[m];
                m++;
            }
            return m;
        }

        int handsForFirst(int moves) {
            int sum = 0;
            for (int m = 0; m < moves; m++) {
                sum += hands[m];
            }
            return sum;
        }
    }

    /** The dune: where it began, its WINDS, and by how many ways winds with chances bring it on. */
    private static final class Sand {
        private static final int SUMS = MOST_WIND * MOST_LIKELY_WEEKS + 1;

        private final int[] winds = new int[WEEKS];
        private final long[] ways = new long[SUMS];
        private int begin = 0;

        int footIn(int week) {
            int foot = begin;
            for (int w = 0; w <= week; w++) {
                foot += winds[w];
            }
            return foot;
        }

        /** Each sum of n winds of 0 to k gets the number of ways that lead to it. */
        void spread(int k, int n) {
            Arrays.fill(ways, 0L);
            ways[0] = 1;
            for (int week = 0; week < n; week++) {
                // From the greatest sum down, so that the lesser ones are still those of the week ahead.
                for (int sum = SUMS - 1; sum > 0; sum--) {
                    int least = Math.max(0, sum - k);
                    for (int from = sum - 1; from >= least; from--) {
                        ways[sum] += ways[from];
                    }
                }
            }
        }

        /** By how many of the ways the FOOT comes to lie beyond a ROW. */
        long waysOver(int row) {
            long over = 0;
            for (int sum = 0; sum < SUMS; sum++) {
                if (begin + sum > row) {
                    over += ways[sum];
                }
            }
            return over;
        }
    }

    /** Pairs of HOUSES that are OWED. */
    private static final class Pairs {
        private final int[] ones = new int[MOST_PAIRS];
        private final int[] others = new int[MOST_PAIRS];
        private int size = 0;

        boolean add(int a, int b) {
            if (size >= MOST_PAIRS) {
                return false;
            }
            ones[size] = a;
            others[size] = b;
            size++;
            return true;
        }

        /** How many pairs are not BESIDE, with HOUSES in such ROWS. */
        int apart(Town town, int[] rows) {
            int sum = 0;
            for (int p = 0; p < size; p++) {
                int a = ones[p];
                int b = others[p];
                if (a < town.size && b < town.size) {
                    int across = Math.abs(town.columns[a] - town.columns[b]);
                    int along = Math.abs(rows[a] - rows[b]);
                    sum += across + along == 1 ? 0 : 1;
                }
            }
            return sum;
        }
    }

    /** What is on PLOTS: WELLS, DEBTS. */
    private static final class Marks {
        private final int[] columns;
        private final int[] rows;
        private final int[] amounts;
        private int size = 0;

        Marks(int most) {
            int length = Math.max(0, most);
            columns = new int[length];
            rows = new int[length];
            amounts = new int[length];
        }

        boolean add(int column, int row, int amount) {
            if (size >= rows.length) {
                return false;
            }
            columns[size] = column;
            rows[size] = row;
            amounts[size] = amount;
            size++;
            return true;
        }

        int inRows(int first, int last) {
            int sum = 0;
            for (int i = 0; i < size; i++) {
                sum += rows[i] >= first && rows[i] <= last ? 1 : 0;
            }
            return sum;
        }

        int amountOn(int column, int row) {
            int sum = 0;
            for (int i = 0; i < size; i++) {
                sum += columns[i] == column && rows[i] == row ? amounts[i] : 0;
            }
            return sum;
        }

        int amountBelow(int row) {
            int sum = 0;
            for (int i = 0; i < size; i++) {
                sum += rows[i] < row ? amounts[i] : 0;
            }
            return sum;
        }
    }

    /** A row of a FORM; its items are made once and used again. */
    private static final class Sheet {
        private final int[] items = new int[MOST_ITEMS];
        private boolean isLost = true;
        private int form = 0;
        private int size = 0;

        void renew(int newForm, int newSize) {
            Arrays.fill(items, 0);
            isLost = false;
            form = newForm;
            size = newSize;
        }

        /** The number of the FINDING at an item that is treated as of a FORM; 0. */
        int amissAt(int asForm, int i) {
            if (isLost) {
                return NULL_FOUND;
            }
            if (asForm != form) {
                return CAST_FOUND;
            }
            return i < 0 || i >= size ? INDEX_FOUND : 0;
        }

        boolean hasRange(int i, int n) {
            return i >= 0 && n >= 0 && i <= size && n <= size - i;
        }

        void keep(int i, int v) {
            items[i] = form == 0 ? (byte) v : form == 1 ? (short) v : v;
        }
    }
}
