import java.util.function.ToLongFunction;

/** "Refusals, the first that fits .. They change nothing (FINDINGS but count() 8)": of each call, in some states. */
final class RefusalsTest {
    private static final int NONE = WalkingTown.NONE;
    private static final int BAD = WalkingTown.BAD;
    private static final int NOT = WalkingTown.NOT;
    private static final int FULL = WalkingTown.FULL;
    private static final int NULL = -11;
    private static final int INDEX = -12;
    private static final int CAST = -13;
    private static final int STORE = -14;
    private static final int SIZE = -15;
    private static final int LEAST = Integer.MIN_VALUE;
    private static final int BAD_SALE = -10002;
    private static final int NO_SALE = -10003;
    private static final long BAD_LONG = Long.MIN_VALUE + 2;
    private static final String TEN = "s000;t001;r002;c003;s104;t105;r106;c207;s308;t309";

    private enum State { NEW, FULL_OF_ALL, FULL_TEXTS, BEYOND }

    /** A call with one number left open. */
    private interface Asked {
        long of(WalkingTown x, int v);
    }

    private final Check check = new Check("RefusalsTest");
    private State state = State.NEW;

    public static void main(String[] args) {
        RefusalsTest test = new RefusalsTest();
        for (State each : State.values()) {
            test.state = each;
            test.badWindsAndTexts();
            test.badMoves();
            test.badNeighbours();
            test.badDebts();
            test.badSheets();
            test.askingChangesNothing();
        }
        test.noHouses();
        test.lostSheets();
        test.fullOfAll();
        test.fullTexts();
        test.beyond();
        test.findings();
        test.check.end();
    }

    private WalkingTown made() {
        switch (state) {
            case FULL_OF_ALL: return madeFull();
            case FULL_TEXTS: return madeOfFullTexts();
            case BEYOND: return madeBeyond();
            default: return new WalkingTown();
        }
    }

    /** The texts end where they are well: of 60 bytes neither can be. The latest FINDING is SIZE. */
    private static WalkingTown madeFull() {
        WalkingTown x = Check.townOf(TEN);
        Check.retype(x, 1, "000;011;022;033;044;055;066;077;088;099;100;111;122;133;514");
        Check.winds(x, 0, 1, 0, 2, 0, 1, 1, 0, 0, 3);
        for (int n = 0; n < 20; n++) {
            x.owed(n % 10, (n + 1) % 10);
            x.well(n % 4, 3 * n);
            x.debt(n % 4, 2 * n, 1 + n);
        }
        x.set(0, 1);
        x.set(1, 30);
        fillSheets(x);
        x.sheet(0, 0, -1);
        return x;
    }

    private static void fillSheets(WalkingTown x) {
        for (int s = 0; s < 4; s++) {
            x.sheet(s, s % 3, 3 + s);
            for (int i = 0; i < 3 + s; i++) {
                x.put(s, s % 3, i, 1 + s + i);
            }
        }
    }

    /** The latest FINDING is NULL. */
    private static WalkingTown madeOfFullTexts() {
        WalkingTown x = Check.townOf(TEN + ";s398;s397x");
        Check.retype(x, 1, "000;011;022;033;044;055;066;077;088;099;100;111;122;133;514;");
        x.lose(3);
        return x;
    }

    /** No HOUSE can be ahead of the sand any more; the latest FINDING is STORE. */
    private static WalkingTown madeBeyond() {
        WalkingTown x = Check.townOf("t099;s198;c250");
        Check.retype(x, 1, "000;011;022");
        x.set(0, 99);
        Check.winds(x, 1, 2);
        x.owed(0, 1);
        x.well(0, 99);
        x.debt(0, 99, 5);
        fillSheets(x);
        x.copy(0, 0, 1, 0, 0);
        return x;
    }

    private void refused(String call, long refusal, int finding, ToLongFunction<WalkingTown> asked) {
        String where = state + ", " + call;
        WalkingTown x = made();
        WalkingTown twin = made();
        check.due(where, asked.applyAsLong(x), refusal);
        check.due(where + ", then count(8)", x.count(8), finding == 0 ? twin.count(8) : finding);
        Answers.compare(check, where, x, twin);
    }

    private void refused(String call, long refusal, ToLongFunction<WalkingTown> asked) {
        refused(call, refusal, 0, asked);
    }

    private void found(String call, int finding, ToLongFunction<WalkingTown> asked) {
        refused(call, finding, -10 - finding, asked);
    }

    /** A number below and above those that are taken, and the farthest. */
    private void ends(String call, long refusal, int below, int above, Asked asked) {
        int[] values = {below, above, Integer.MIN_VALUE, Integer.MAX_VALUE};
        for (int v : values) {
            refused(call + " with " + v, refusal, x -> asked.of(x, v));
        }
    }

    private void badWindsAndTexts() {
        ends("wind(v, 5)", BAD, -1, 52, (x, v) -> x.wind(v, 5));
        ends("wind(0, v)", BAD, -1, 10, (x, v) -> x.wind(0, v));
        ends("wind(51, v)", BAD, -1, 10, (x, v) -> x.wind(51, v));
        ends("read(v)", BAD, -1, 4, (x, v) -> x.read(v));
        ends("set(v, 5)", BAD, -1, 2, (x, v) -> x.set(v, 5));
        ends("set(0, v)", BAD, -1, 100, (x, v) -> x.set(0, v));
        ends("set(1, v)", BAD, -1, 100, (x, v) -> x.set(1, v));
        ends("foot(v)", BAD, -1, 52, (x, v) -> x.foot(v));
        ends("type(v, 59)", BAD, -1, 2, (x, v) -> x.type(v, 59));
        ends("type(0, v)", BAD, -1, 256, (x, v) -> x.type(0, v));
        ends("type(1, v)", BAD, -1, 256, (x, v) -> x.type(1, v));
        ends("wipe(v)", BAD, -1, 2, (x, v) -> x.wipe(v));
        ends("fault(v)", BAD, -1, 2, (x, v) -> x.fault(v));
        ends("house(v, 0)", BAD, -1, 10, (x, v) -> x.house(v, 0));
        ends("house(0, v)", BAD, -1, 3, (x, v) -> x.house(0, v));
        ends("takes(v, 0)", BAD, -1, 10, (x, v) -> x.takes(v, 0));
        ends("takes(0, v)", BAD, -1, 100, (x, v) -> x.takes(0, v));
    }

    private void badMoves() {
        ends("judged(v)", BAD, -1, 2, (x, v) -> x.judged(v));
        ends("ends(v)", BAD, -1, 10, (x, v) -> x.ends(v));
        ends("queue(v, NONE)", BAD, -1, 41, (x, v) -> x.queue(v, NONE));
        ends("queue(v, 0)", BAD, -1, 41, (x, v) -> x.queue(v, 0));
        ends("queue(40, v)", BAD, -2, 10, (x, v) -> x.queue(40, v));
        ends("needs(v)", BAD, -1, 52, (x, v) -> x.needs(v));
        ends("fewest(v)", BAD, -1, 52, (x, v) -> x.fewest(v));
        ends("turn(v, 0)", BAD, -1, 52, (x, v) -> x.turn(v, 0));
        refused("turn(0, -1)", BAD, x -> x.turn(0, -1));
        refused("turn(51, least)", BAD, x -> x.turn(51, LEAST));
    }

    private void badNeighbours() {
        ends("owed(v, 0)", BAD, -1, 10, (x, v) -> x.owed(v, 0));
        ends("owed(9, v)", BAD, -1, 10, (x, v) -> x.owed(9, v));
        refused("owed(0, 0)", BAD, x -> x.owed(0, 0));
        refused("owed(9, 9)", BAD, x -> x.owed(9, 9));
        ends("broken(v, 0)", BAD, -1, 41, (x, v) -> x.broken(v, 0));
        ends("broken(v, 1)", BAD, -1, 41, (x, v) -> x.broken(v, 1));
        ends("broken(0, v)", BAD, -1, 2, (x, v) -> x.broken(0, v));
        ends("well(v, 0)", BAD, -1, 4, (x, v) -> x.well(v, 0));
        ends("well(0, v)", BAD, -1, 100, (x, v) -> x.well(0, v));
        ends("met(v)", BAD, -1, 52, (x, v) -> x.met(v));
        ends("dry(v)", BAD, -1, 52, (x, v) -> x.dry(v));
        ends("sold(v, 1, 51)", BAD_SALE, -1, 10, (x, v) -> x.sold(v, 1, 51));
        ends("sold(0, v, 51)", BAD_SALE, -1, 10, (x, v) -> x.sold(0, v, 51));
        ends("sold(0, 1, v)", BAD_SALE, -1, 52, (x, v) -> x.sold(0, 1, v));
        refused("sold(1, 1, 51)", BAD_SALE, x -> x.sold(1, 1, 51));
    }

    private void badDebts() {
        ends("debt(v, 0, 1)", BAD, -1, 4, (x, v) -> x.debt(v, 0, 1));
        ends("debt(0, v, 1)", BAD, -1, 100, (x, v) -> x.debt(0, v, 1));
        ends("debt(0, 0, v)", BAD, 0, 100, (x, v) -> x.debt(0, 0, v));
        ends("owes(v, 51)", BAD, -1, 10, (x, v) -> x.owes(v, 51));
        ends("owes(0, v)", BAD, -1, 52, (x, v) -> x.owes(0, v));
        ends("lost(v)", BAD, -1, 52, (x, v) -> x.lost(v));
        ends("church(v, 5, 5)", BAD, 0, 1000, (x, v) -> x.church(v, 5, 5));
        ends("church(5, v, 5)", BAD, -1, 1000, (x, v) -> x.church(5, v, 5));
        ends("church(5, 5, v)", BAD, -1, 52, (x, v) -> x.church(5, 5, v));
        ends("likely(v, 5, 5, 0)", BAD_LONG, -1, 10, (x, v) -> x.likely(v, 5, 5, 0));
        ends("likely(5, v, 5, 0)", BAD_LONG, -1, 100, (x, v) -> x.likely(5, v, 5, 0));
        ends("likely(5, 5, v, 1)", BAD_LONG, -1, 10, (x, v) -> x.likely(5, 5, v, 1));
        ends("likely(5, 5, 5, v)", BAD_LONG, -1, 2, (x, v) -> x.likely(5, 5, 5, v));
        ends("stone(v, 0, 0, 9, 0)", BAD, -1, 100, (x, v) -> x.stone(v, 0, 0, 9, 0));
        ends("stone(0, v, 0, 9, 0)", BAD, -1, 52, (x, v) -> x.stone(0, v, 0, 9, 0));
        ends("stone(0, 0, v, 9, 0)", BAD, -1, 10, (x, v) -> x.stone(0, 0, v, 9, 0));
        ends("stone(0, 0, 0, v, 0)", BAD, -1, 10, (x, v) -> x.stone(0, 0, 0, v, 0));
        ends("stone(0, 0, 0, 9, v)", BAD, -1, 2, (x, v) -> x.stone(0, 0, 0, 9, v));
        refused("stone(0, 0, 1, 0, 0)", BAD, x -> x.stone(0, 0, 1, 0, 0));
        refused("stone(0, 0, 9, 8, 1)", BAD, x -> x.stone(0, 0, 9, 8, 1));
    }

    private void badSheets() {
        ends("sheet(v, 0, -1)", BAD, -1, 4, (x, v) -> x.sheet(v, 0, -1));
        ends("sheet(0, v, -1)", BAD, -1, 3, (x, v) -> x.sheet(0, v, -1));
        refused("sheet(0, 0, 61)", BAD, x -> x.sheet(0, 0, 61));
        refused("sheet(3, 2, most)", BAD, x -> x.sheet(3, 2, Integer.MAX_VALUE));
        found("sheet(0, 0, -1)", SIZE, x -> x.sheet(0, 0, -1));
        found("sheet(3, 2, least)", SIZE, x -> x.sheet(3, 2, LEAST));
        ends("lose(v)", BAD, -1, 4, (x, v) -> x.lose(v));
        ends("put(v, 0, 0, 9)", BAD, -1, 4, (x, v) -> x.put(v, 0, 0, 9));
        ends("put(0, v, 0, 9)", BAD, -1, 3, (x, v) -> x.put(0, v, 0, 9));
        ends("get(v, 0, 0)", LEAST, -1, 4, (x, v) -> x.get(v, 0, 0));
        ends("get(0, v, 0)", LEAST, -1, 3, (x, v) -> x.get(0, v, 0));
        ends("copy(v, 0, 0, 0, 1)", BAD, -1, 4, (x, v) -> x.copy(v, 0, 0, 0, 1));
        ends("copy(0, 0, v, 0, 1)", BAD, -1, 4, (x, v) -> x.copy(0, 0, v, 0, 1));
        ends("write(v, 0)", BAD, -1, 41, (x, v) -> x.write(v, 0));
        ends("write(9, v)", BAD, -1, 4, (x, v) -> x.write(9, v));
        ends("count(v)", BAD, -1, 9, (x, v) -> x.count(v));
    }

    /** Two rows of answers, one behind the other, are alike only if the first changed nothing. */
    private void askingChangesNothing() {
        WalkingTown x = made();
        int[] asked = {x.foot(51), x.house(0, 0), x.takes(0, 9), x.judged(0), x.judged(1), x.ends(0), x.queue(40, NONE),
            x.queue(40, 0), x.needs(51), x.fewest(51), x.turn(51, 9), x.broken(40, 0), x.broken(40, 1), x.met(51),
            x.dry(51), x.sold(0, 1, 51), x.sold(1, 0, 5), x.owes(0, 51), x.lost(51), x.church(99, 50, 8),
            x.stone(0, 51, 1, 9, 0), x.count(8), x.fault(0), x.fault(1)};
        x.likely(9, 50, 9, 0);
        x.digest();
        check.due(state + ", count(8) behind " + asked.length + " calls", x.count(8), made().count(8));
        Answers.compare(check, state + ", behind calls that ask", x, made());
    }

    private void noHouses() {
        State[] states = {State.NEW, State.FULL_TEXTS};
        for (State each : states) {
            state = each;
            refused("house(0, 0)", BAD, x -> x.house(0, 0));
            refused("takes(0, 0)", BAD, x -> x.takes(0, 0));
            refused("ends(0)", BAD, x -> x.ends(0));
            refused("queue(0, 0)", BAD, x -> x.queue(0, 0));
            refused("sold(0, 1, 0)", BAD_SALE, x -> x.sold(0, 1, 0));
            refused("owes(0, 0)", BAD, x -> x.owes(0, 0));
        }
    }

    private void lostSheets() {
        state = State.NEW;
        for (int sheet = 0; sheet < 4; sheet++) {
            int s = sheet;
            found("read(" + s + ")", NULL, x -> x.read(s));
            found("lose(" + s + ")", NULL, x -> x.lose(s));
            found("put(" + s + ", 0, 0, 9)", NULL, x -> x.put(s, 0, 0, 9));
            refused("get(" + s + ", 0, 0)", LEAST, 1, x -> x.get(s, 0, 0));
            found("copy(" + s + ", 0, 0, 0, 0)", NULL, x -> x.copy(s, 0, 0, 0, 0));
            found("write(0, " + s + ")", NULL, x -> x.write(0, s));
        }
    }

    private void fullOfAll() {
        state = State.FULL_OF_ALL;
        refused("owed(0, 2)", FULL, x -> x.owed(0, 2));
        refused("owed(9, 0)", FULL, x -> x.owed(9, 0));
        refused("well(0, 0)", FULL, x -> x.well(0, 0));
        refused("well(3, 99)", FULL, x -> x.well(3, 99));
        refused("debt(0, 0, 1)", FULL, x -> x.debt(0, 0, 1));
        refused("debt(3, 99, 99)", FULL, x -> x.debt(3, 99, 99));
    }

    private void fullTexts() {
        state = State.FULL_TEXTS;
        refused("type(0, 59)", FULL, x -> x.type(0, 59));
        refused("type(0, 0)", FULL, x -> x.type(0, 0));
        refused("type(1, 48)", FULL, x -> x.type(1, 48));
        refused("type(1, 255)", FULL, x -> x.type(1, 255));
    }

    private void beyond() {
        state = State.BEYOND;
        int[] weeks = {0, 51};
        for (int week : weeks) {
            refused("needs(" + week + ")", NOT, x -> x.needs(week));
            refused("fewest(" + week + ")", NOT, x -> x.fewest(week));
            refused("turn(" + week + ", 0)", NOT, x -> x.turn(week, 0));
            refused("turn(" + week + ", most)", NOT, x -> x.turn(week, Integer.MAX_VALUE));
            refused("met(" + week + ")", NOT, x -> x.met(week));
            refused("dry(" + week + ")", NOT, x -> x.dry(week));
            refused("sold(0, 1, " + week + ")", NO_SALE, x -> x.sold(0, 1, week));
            refused("sold(2, 0, " + week + ")", NO_SALE, x -> x.sold(2, 0, week));
            refused("owes(0, " + week + ")", NOT, x -> x.owes(0, week));
            refused("owes(2, " + week + ")", NOT, x -> x.owes(2, week));
        }
    }

    /** SHEETS 0 to 3 have 3 to 6 items, of FORMS 0, 1, 2 and 0. */
    private void findings() {
        State[] states = {State.FULL_OF_ALL, State.BEYOND};
        for (State each : states) {
            state = each;
            found("put(0, 1, 0, 9)", CAST, x -> x.put(0, 1, 0, 9));
            found("put(1, 2, 9, 9), CAST first", CAST, x -> x.put(1, 2, 9, 9));
            found("put(0, 0, 3, 9)", INDEX, x -> x.put(0, 0, 3, 9));
            found("put(3, 0, -1, 9)", INDEX, x -> x.put(3, 0, -1, 9));
            refused("get(0, 1, 0)", LEAST, 3, x -> x.get(0, 1, 0));
            refused("get(2, 0, 9), CAST first", LEAST, 3, x -> x.get(2, 0, 9));
            refused("get(0, 0, 3)", LEAST, 2, x -> x.get(0, 0, 3));
            refused("get(3, 0, -1)", LEAST, 2, x -> x.get(3, 0, -1));
            found("copy(0, 0, 1, 0, 1)", STORE, x -> x.copy(0, 0, 1, 0, 1));
            found("copy(2, 9, 3, -1, 1), STORE first", STORE, x -> x.copy(2, 9, 3, -1, 1));
            found("copy(3, 0, 0, 0, 4)", INDEX, x -> x.copy(3, 0, 0, 0, 4));
            found("copy(0, 1, 3, 0, 3)", INDEX, x -> x.copy(0, 1, 3, 0, 3));
            found("copy(0, 0, 0, 1, 3)", INDEX, x -> x.copy(0, 0, 0, 1, 3));
            found("copy(3, 0, 0, 4, 0)", INDEX, x -> x.copy(3, 0, 0, 4, 0));
        }
    }
}
