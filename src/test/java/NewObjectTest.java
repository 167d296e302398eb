/** Promise 1. */
final class NewObjectTest {
    public static void main(String[] args) {
        Check check = new Check("NewObjectTest");
        WalkingTown x = new WalkingTown();
        for (int what = 0; what <= 8; what++) {
            check.due("count(" + what + ")", x.count(what), what == 7 ? 9 : 0);
        }
        for (int s = 0; s < 4; s++) {
            check.due("lose(" + s + ")", new WalkingTown().lose(s), -11);
        }
        for (int week = 0; week < 52; week++) {
            check.due("foot(" + week + ")", x.foot(week), 0);
            check.due("wind(" + week + ", 0)", x.wind(week, 0), 0);
        }
        check.due("fault(0)", x.fault(0), WalkingTown.NONE);
        check.due("fault(1)", x.fault(1), WalkingTown.NONE);
        check.due("house(0, 0)", x.house(0, 0), WalkingTown.BAD);
        check.due("set(0, 0)", x.set(0, 0), 0);
        check.due("set(1, 9)", x.set(1, 9), 9);
        check.end();
    }
}
