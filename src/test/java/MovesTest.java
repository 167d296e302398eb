/** Promises 11 to 16. */
final class MovesTest {
    private static final int NONE = WalkingTown.NONE;
    private static final int BAD = WalkingTown.BAD;
    private static final int NOT = WalkingTown.NOT;

    private final Check check = new Check("MovesTest");

    public static void main(String[] args) {
        MovesTest test = new MovesTest();
        test.judgedByEach();
        test.judgedWhyInOrder();
        test.ends();
        test.queue();
        test.stuckQueue();
        test.needs();
        test.fewestAndTurn();
        test.fewestWithoutAny();
        test.check.end();
    }

    private void judged(String why, WalkingTown x, int week, int reason) {
        check.due("judged(0) " + why, x.judged(0), week);
        check.due("judged(1) " + why, x.judged(1), reason);
    }

    private void judgedByEach() {
        WalkingTown x = Check.townOf("s000;t005");
        judged("with no wind", x, NONE, 0);
        x.wind(3, 1);
        judged("covered in week 3", x, 3, 1);
        Check.retype(x, 1, "040");
        judged("moved a week too late", x, 3, 1);
        Check.retype(x, 1, "030");
        judged("moved in that week, before the sand", x, NONE, 0);
        x.set(1, 3);
        judged("a hand too few", x, 3, 2);
        x.set(1, 4);
        judged("just enough hands", x, NONE, 0);
        x.wind(51, 5);
        judged("covered in the last week", x, 51, 1);
        x.type(1, ';');
        judged("moves with a fault are none", x, 3, 1);
        check.due("judged(2)", x.judged(2), BAD);
        check.due("judged(-1)", x.judged(-1), BAD);
    }

    private void judgedWhyInOrder() {
        WalkingTown x = Check.townOf("c098;s000");
        x.wind(0, 1);
        x.set(1, 3);
        Check.retype(x, 1, "000");
        judged("99 may be reached, but the other is covered", x, 0, 1);
        Check.retype(x, 1, "001");
        judged("hands ahead of covered", x, 0, 2);
        x.wind(0, 9);
        Check.retype(x, 1, "000;000;001");
        judged("not ahead of hands ahead of covered", x, 0, 3);
        x.wind(0, 0);
        Check.retype(x, 1, "000;011");
        x.set(1, 9);
        judged("not beyond 99", x, 1, 3);
        x = Check.townOf("c000");
        Check.retype(x, 1, "000;000;010");
        x.set(1, 7);
        judged("a cellar takes 3, 4, then 5", x, NONE, 0);
        x.set(1, 6);
        judged("hands of one week are summed", x, 0, 2);
        Check.retype(x, 1, "000;010;020;030;040");
        judged("one more each time: 7 in week 4", x, 4, 2);
        x = Check.townOf("r000");
        Check.retype(x, 1, "000;010");
        x.set(1, 1);
        judged("runners take 2 at first", x, 0, 2);
        x.set(1, 0);
        Check.retype(x, 1, "");
        judged("no moves take no hands", x, NONE, 0);
    }

    private void ends() {
        WalkingTown x = Check.townOf("s000;t005;r100");
        Check.retype(x, 1, "000;000;102;111");
        x.wind(0, 9);
        check.due("ends(0): past the other, then its own front", x.ends(0), 7);
        check.due("ends(1)", x.ends(1), 8);
        check.due("ends(2): by itself 1 further", x.ends(2), 1);
        check.due("ends(3)", x.ends(3), BAD);
        check.due("ends(-1)", x.ends(-1), BAD);
        x = Check.townOf("s098;t000;r197");
        Check.retype(x, 1, "000;001;010;102;102;102;102");
        check.due("ends(0)", x.ends(0), 99);
        check.due("ends(1), left aside", x.ends(1), 0);
        check.due("ends(2)", x.ends(2), 99);
        x.type(1, 'x');
        check.due("ends(0) without moves", x.ends(0), 98);
    }

    private void queue() {
        WalkingTown x = Check.townOf("s001;t000;r100;c203");
        int[] next = {1, 2, 0, 2, 1, 2, 0, 2, 3, 1};
        int[][] rows = {
            {1, 0, 0, 3}, {1, 2, 0, 3}, {1, 2, 1, 3}, {3, 2, 1, 3}, {3, 2, 2, 3},
            {3, 4, 2, 3}, {3, 4, 3, 3}, {5, 4, 3, 3}, {5, 4, 4, 3}, {5, 4, 4, 4}};
        for (int moves = 0; moves < next.length; moves++) {
            check.due("queue(" + moves + ", NONE)", x.queue(moves, NONE), next[moves]);
            for (int house = 0; house < 4; house++) {
                check.due("queue(" + moves + ", " + house + ")", x.queue(moves, house), rows[moves][house]);
            }
        }
        check.due("queue(-1, 0)", x.queue(-1, 0), BAD);
        check.due("queue(41, 0)", x.queue(41, 0), BAD);
        check.due("queue(0, 4)", x.queue(0, 4), BAD);
        check.due("queue(0, -2)", x.queue(0, -2), BAD);
        check.due("queue(41, NONE)", x.queue(41, NONE), BAD);
        x = new WalkingTown();
        check.due("queue(40, NONE) without any", x.queue(40, NONE), NONE);
        check.due("queue(0, 0) without any", x.queue(0, 0), BAD);
    }

    private void stuckQueue() {
        WalkingTown x = Check.townOf("s099;t150;c010");
        check.due("queue(0, NONE)", x.queue(0, NONE), 2);
        check.due("queue(40, NONE) stays", x.queue(40, NONE), 2);
        check.due("queue(40, 2)", x.queue(40, 2), 10);
        check.due("queue(40, 1)", x.queue(40, 1), 50);
        x = Check.townOf("s096;t097");
        check.due("queue(1, 0)", x.queue(1, 0), 98);
        check.due("queue(2, 1)", x.queue(2, 1), 99);
        check.due("queue(3, NONE)", x.queue(3, NONE), 0);
        check.due("queue(40, 0)", x.queue(40, 0), 98);
    }

    private void needs() {
        WalkingTown x = Check.townOf("s000;t001;r100");
        check.due("needs(0)", x.needs(0), 0);
        Check.winds(x, 1, 0, 1, 3);
        check.due("needs(0)", x.needs(0), 2);
        check.due("needs(1)", x.needs(1), 2);
        check.due("needs(2)", x.needs(2), 4);
        check.due("needs(3)", x.needs(3), 10);
        check.due("needs(51)", x.needs(51), 10);
        check.due("needs(-1)", x.needs(-1), BAD);
        check.due("needs(52)", x.needs(52), BAD);
        x = Check.townOf("t050");
        x.set(0, 99);
        check.due("needs(0) up to ROW 99", x.needs(0), 49);
        x.wind(5, 1);
        check.due("needs(4)", x.needs(4), 49);
        check.due("needs(5), beyond", x.needs(5), NOT);
        x = new WalkingTown();
        x.set(0, 99);
        x.wind(0, 9);
        check.due("needs(0) without houses", x.needs(0), 0);
        x = Check.townOf("t000;t100;t200;t300");
        x.set(0, 99);
        check.due("needs(0), the most there are", x.needs(0), 396);
    }

    private void fewestAndTurn() {
        WalkingTown x = Check.townOf("s000;t001;r100");
        Check.winds(x, 0, 1, 1);
        // the queue: s (4), r (2), t (1), r (1) with none due in week 0, two in week 1, four in week 2
        check.due("fewest(0)", x.fewest(0), 0);
        check.due("fewest(1)", x.fewest(1), 4);
        check.due("turn(1, 0)", x.turn(1, 0), 0);
        check.due("turn(1, 1)", x.turn(1, 1), 1);
        check.due("turn(1, 2)", x.turn(1, 2), NONE);
        check.due("fewest(2)", x.fewest(2), 4);
        int[] weeks = {0, 1, 1, 1, NONE, NONE};
        for (int k = 0; k < weeks.length; k++) {
            check.due("turn(2, " + k + ")", x.turn(2, k), weeks[k]);
        }
        check.due("turn(2, max)", x.turn(2, Integer.MAX_VALUE), NONE);
        check.due("turn(2, -1)", x.turn(2, -1), BAD);
        check.due("turn(52, 0)", x.turn(52, 0), BAD);
        check.due("turn(-1, 0)", x.turn(-1, 0), BAD);
        check.due("fewest(52)", x.fewest(52), BAD);
        check.due("fewest(-1)", x.fewest(-1), BAD);
        Check.winds(x, 1, 0, 1);
        check.due("fewest(0), all at once", x.fewest(0), 6);
        check.due("fewest(2)", x.fewest(2), 6);
        check.due("turn(2, 1)", x.turn(2, 1), 0);
        check.due("turn(2, 2)", x.turn(2, 2), 1);
        x.set(1, 0);
        check.due("fewest(2) does not ask how many HANDS there are", x.fewest(2), 6);
        x = Check.townOf("c000");
        x.set(0, 99);
        check.due("fewest(0) of 99 cellars' moves", x.fewest(0), 5148);
        check.due("turn(0, 98)", x.turn(0, 98), 0);
        check.due("turn(0, 99)", x.turn(0, 99), NONE);
    }

    private void fewestWithoutAny() {
        WalkingTown x = Check.townOf("s099;t000");
        x.wind(4, 1);
        check.due("fewest(3)", x.fewest(3), 0);
        check.due("turn(3, 0)", x.turn(3, 0), NONE);
        check.due("fewest(4)", x.fewest(4), NOT);
        check.due("turn(4, 0)", x.turn(4, 0), NOT);
        check.due("turn(4, 99)", x.turn(4, 99), NOT);
        check.due("turn(4, -1), BAD first", x.turn(4, -1), BAD);
    }
}
