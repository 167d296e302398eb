/** Runs of calls by a fixed row of numbers, each answer set beside the Model's; promises 2, 4 to 8, 11 to 25 and 36. */
final class ModelTest {
    private static final int RUNS = 400;

    private final Check check = new Check("ModelTest");
    private long seed = 20261118;
    private WalkingTown x = new WalkingTown();
    private Model model = new Model();

    public static void main(String[] args) {
        ModelTest test = new ModelTest();
        for (int run = 0; run < RUNS; run++) {
            test.run(run);
        }
        test.fixedDigests();
        test.check.end();
    }

    private int upTo(int most) {
        seed = seed * 6364136223846793005L + 1442695040888963407L;
        return (int) ((seed >>> 33) % (most + 1));
    }

    private void run(int run) {
        x = new WalkingTown();
        model = new Model();
        setUp();
        askAll("run " + run);
        change();
        askAll("run " + run + " changed");
    }

    private void setUp() {
        typeTown(townText());
        typeMoves(movesText());
        int calm = upTo(8);
        for (int week = 0; week < 52; week++) {
            wind(week, upTo(9) < calm ? 0 : upTo(upTo(3)));
        }
        for (int n = upTo(11); n > 0; n--) {
            addPair(upTo(9), upTo(9));
        }
        for (int n = upTo(9); n > 0; n--) {
            addWell(upTo(3), upTo(upTo(99)));
        }
        for (int n = upTo(22); n > 0; n--) {
            addDebt(upTo(3), upTo(upTo(30)), 1 + upTo(98));
        }
    }

    private void change() {
        switch (upTo(4)) {
            case 0: typeTown(townText()); break;
            case 1: typeMoves(movesText()); break;
            case 2: wind(upTo(51), upTo(9)); break;
            case 3: check.due("set(1)", x.set(1, 2), model.hands); model.hands = 2; break;
            default: check.due("set(0)", x.set(0, 7), model.begin); model.begin = 7; break;
        }
    }

    private String townText() {
        StringBuilder text = new StringBuilder();
        int rows = upTo(9) == 0 ? 99 : 1 + upTo(14);
        for (int n = upTo(11); n > 0; n--) {
            int row = upTo(rows);
            text.append(text.length() == 0 ? "" : ";").append("strc".charAt(upTo(3))).append(upTo(3));
            text.append(row / 10).append(row % 10);
        }
        return spoilt(text);
    }

    private String movesText() {
        StringBuilder text = new StringBuilder();
        int week = 0;
        int houses = Math.max(1, model.houses().size());
        for (int n = upTo(15); n > 0; n--) {
            week += upTo(3);
            text.append(text.length() == 0 ? "" : ";").append(week / 10).append(week % 10).append(upTo(houses - 1));
        }
        return spoilt(text);
    }

    /** Now and then a byte is another, or the end is missing. */
    private String spoilt(StringBuilder text) {
        if (text.length() > 0 && upTo(5) == 0) {
            text.setCharAt(upTo(text.length() - 1), "strcx0123456789;".charAt(upTo(15)));
        }
        if (text.length() > 0 && upTo(7) == 0) {
            text.setLength(upTo(text.length()));
        }
        return text.length() > 60 ? text.substring(0, 60) : text.toString();
    }

    private void typeTown(String text) {
        check.due("wipe(0)", x.wipe(0), model.townText.length());
        model.townText = "";
        for (int i = 0; i < text.length(); i++) {
            model.townText += text.charAt(i);
            check.due("type", x.type(0, text.charAt(i)), i + 1);
            check.due("fault(0) of " + model.townText, x.fault(0), model.townFault());
        }
    }

    private void typeMoves(String text) {
        check.due("wipe(1)", x.wipe(1), model.movesText.length());
        model.movesText = "";
        for (int i = 0; i < text.length(); i++) {
            model.movesText += text.charAt(i);
            check.due("type", x.type(1, text.charAt(i)), i + 1);
            check.due("fault(1) of " + model.movesText, x.fault(1), model.movesFault());
        }
    }

    private void wind(int week, int v) {
        check.due("wind", x.wind(week, v), model.winds[week]);
        model.winds[week] = v;
    }

    private void addPair(int a, int b) {
        boolean isNew = a != b && model.pairs.size() < 10;
        if (isNew) {
            model.pairs.add(new int[] {a, b});
        }
        check.due("owed", x.owed(a, b), isNew ? model.pairs.size() : a == b ? -2 : -4);
    }

    private void addWell(int column, int row) {
        boolean isNew = model.wells.size() < 8;
        if (isNew) {
            model.wells.add(new int[] {column, row});
        }
        check.due("well", x.well(column, row), isNew ? model.wells.size() - 1 : -4);
    }

    private void addDebt(int column, int row, int amount) {
        boolean isNew = model.debts.size() < 20;
        if (isNew) {
            model.debts.add(new int[] {column, row, amount});
        }
        check.due("debt", x.debt(column, row, amount), isNew ? model.debts.size() : -4);
    }

    private void askAll(String run) {
        String where = run + " of " + model.townText + " and " + model.movesText + ": ";
        int size = model.houses().size();
        check.due(where + "judged(0)", x.judged(0), model.judged()[0]);
        check.due(where + "judged(1)", x.judged(1), model.judged()[1]);
        for (int n = 0; n < 3; n++) {
            askWeek(where, upTo(upTo(51)));
            askMoves(where, upTo(40));
        }
        for (int house = 0; house < 10; house++) {
            boolean isThere = house < size;
            int week = upTo(upTo(20));
            check.due(where + "ends", x.ends(house), isThere ? model.ends(house) : -2);
            check.due(where + "owes " + week, x.owes(house, week), isThere ? model.owes(house, week) : -2);
        }
        int a = upTo(9);
        int b = upTo(9);
        int week = upTo(upTo(30));
        boolean isSale = a != b && a < size && b < size;
        check.due(where + "sold(" + a + ", " + b + ", " + week + ")", x.sold(a, b, week),
                isSale ? model.sold(a, b, week) : -10002);
        check.due(where + "digest()", x.digest(), model.digest());
    }

    private void askWeek(String where, int week) {
        String at = "(" + week + ")";
        check.due(where + "foot" + at, x.foot(week), model.foot(week));
        check.due(where + "needs" + at, x.needs(week), model.needs(week));
        check.due(where + "fewest" + at, x.fewest(week), model.fewest(week));
        check.due(where + "met" + at, x.met(week), model.met(week));
        check.due(where + "dry" + at, x.dry(week), model.dry(week));
        check.due(where + "lost" + at, x.lost(week), model.lost(week));
        int k = upTo(upTo(60));
        check.due(where + "turn(" + week + ", " + k + ")", x.turn(week, k), model.turn(week, k));
    }

    private void askMoves(String where, int moves) {
        String at = "(" + moves + ")";
        check.due(where + "queue" + at, x.queue(moves, -1), model.queueNext(moves));
        check.due(where + "broken 0" + at, x.broken(moves, 0), model.broken(moves));
        check.due(where + "broken 1" + at, x.broken(moves, 1), model.leastBroken(moves));
        for (int house = 0; house < model.houses().size(); house++) {
            check.due(where + "queue of " + house + at, x.queue(moves, house), model.behind(moves).get(house)[2]);
        }
    }

    private void fixedDigests() {
        // beside one another behind 13 moves only: one more than the digest asks for
        x = Check.townOf("t000;s113");
        x.owed(0, 1);
        check.due("broken(12, 1)", x.broken(12, 1), 0);
        check.due("broken(13, 1)", x.broken(13, 1), 13);
        model = new Model();
        model.townText = "t000;s113";
        model.pairs.add(new int[] {0, 1});
        check.due("digest() with broken(12, 1)", x.digest(), model.digest());
        x = Check.townOf("c097;t000");
        Check.winds(x, 9);
        x.wind(51, 9);
        x.set(1, 99);
        Check.retype(x, 1, "000;000");
        check.due("digest() as ../shared/tests has it", x.digest(), -7965024290860168016L);
        check.due("digest() changes nothing", x.digest(), -7965024290860168016L);
        x.lose(0);
        check.due("digest() does not tell of count(8)", x.digest(), -7965024290860168016L);
    }
}
