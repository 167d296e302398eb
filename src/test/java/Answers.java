import java.util.ArrayList;
import java.util.List;

/** What an object answers to a long row of calls that tell of all that it holds; it is not to be asked again. */
final class Answers {
    private final List<String> calls = new ArrayList<>();
    private final List<Long> told = new ArrayList<>();

    private Answers(WalkingTown x) {
        townAndMoves(x);
        weeks(x);
        neighboursAndDebts(x);
        items(x);
        whatItWas(x);
    }

    static void compare(Check check, String where, WalkingTown x, WalkingTown twin) {
        Answers got = new Answers(x);
        Answers due = new Answers(twin);
        for (int i = 0; i < due.told.size(); i++) {
            check.due(where + ": " + due.calls.get(i), got.told.get(i), due.told.get(i));
        }
    }

    private void tell(String call, long answer) {
        calls.add(call);
        told.add(answer);
    }

    private void townAndMoves(WalkingTown x) {
        for (int what = 0; what <= 7; what++) {
            tell("count(" + what + ")", x.count(what));
        }
        tell("fault(0)", x.fault(0));
        tell("fault(1)", x.fault(1));
        tell("judged(0)", x.judged(0));
        tell("judged(1)", x.judged(1));
        tell("queue(9, NONE)", x.queue(9, -1));
        for (int house = 0; house < 10; house++) {
            tell("kind of " + house, x.house(house, 0));
            tell("column of " + house, x.house(house, 1));
            tell("row of " + house, x.house(house, 2));
            tell("ends(" + house + ")", x.ends(house));
            tell("queue(40, " + house + ")", x.queue(40, house));
            tell("owes(" + house + ", 5)", x.owes(house, 5));
        }
    }

    private void weeks(WalkingTown x) {
        int[] weeks = {0, 5, 51};
        for (int week : weeks) {
            tell("foot(" + week + ")", x.foot(week));
            tell("needs(" + week + ")", x.needs(week));
            tell("fewest(" + week + ")", x.fewest(week));
            tell("turn(" + week + ", 3)", x.turn(week, 3));
            tell("met(" + week + ")", x.met(week));
            tell("dry(" + week + ")", x.dry(week));
            tell("lost(" + week + ")", x.lost(week));
        }
    }

    private void neighboursAndDebts(WalkingTown x) {
        tell("broken(0, 0)", x.broken(0, 0));
        tell("broken(7, 0)", x.broken(7, 0));
        tell("broken(40, 1)", x.broken(40, 1));
        tell("sold(0, 1, 5)", x.sold(0, 1, 5));
        tell("likely(3, 9, 2, 0)", x.likely(3, 9, 2, 0));
        tell("stone(1, 5, 1, 2, 1)", x.stone(1, 5, 1, 2, 1));
        tell("digest()", x.digest());
    }

    private void items(WalkingTown x) {
        for (int s = 0; s < 4; s++) {
            for (int i = 0; i < 6; i++) {
                tell("get(" + s + ", " + s % 3 + ", " + i + ")", x.get(s, s % 3, i));
            }
        }
    }

    /** These change it, and so come last. */
    private void whatItWas(WalkingTown x) {
        for (int s = 0; s < 4; s++) {
            tell("lose(" + s + ")", x.lose(s));
        }
        for (int week = 0; week < 52; week++) {
            tell("wind(" + week + ", 0)", x.wind(week, 0));
        }
        tell("owed(8, 9)", x.owed(8, 9));
        tell("well(3, 99)", x.well(3, 99));
        tell("debt(3, 99, 1)", x.debt(3, 99, 1));
        tell("set(0, 0)", x.set(0, 0));
        tell("set(1, 0)", x.set(1, 0));
        tell("wipe(1)", x.wipe(1));
        tell("wipe(0)", x.wipe(0));
    }
}
