/** Promises 17 to 22. */
final class NeighboursTest {
    private static final int BAD = WalkingTown.BAD;
    private static final int NOT = WalkingTown.NOT;
    private static final int FULL = WalkingTown.FULL;

    private final Check check = new Check("NeighboursTest");

    public static void main(String[] args) {
        NeighboursTest test = new NeighboursTest();
        test.owed();
        test.broken();
        test.beside();
        test.well();
        test.metAndDry();
        test.sold();
        test.check.end();
    }

    private void owed() {
        WalkingTown x = new WalkingTown();
        check.due("owed(3, 3)", x.owed(3, 3), BAD);
        check.due("owed(-1, 0)", x.owed(-1, 0), BAD);
        check.due("owed(0, -1)", x.owed(0, -1), BAD);
        check.due("owed(10, 0)", x.owed(10, 0), BAD);
        check.due("owed(0, 10)", x.owed(0, 10), BAD);
        for (int n = 1; n <= 9; n++) {
            check.due("owed(0, " + n + ")", x.owed(0, n), n);
        }
        check.due("owed(9, 8)", x.owed(9, 8), 10);
        check.due("owed(7, 8)", x.owed(7, 8), FULL);
        check.due("owed(7, 7), BAD first", x.owed(7, 7), BAD);
        check.due("count(4)", x.count(4), 10);
    }

    private void broken() {
        WalkingTown x = Check.townOf("s001;t000;r100");
        x.owed(0, 1);
        x.owed(1, 2);
        x.owed(2, 5);
        int[] apart = {0, 1, 1, 1, 0, 1};
        int[] best = {0, 0, 0, 0, 0, 0};
        for (int m = 0; m < apart.length; m++) {
            check.due("broken(" + m + ", 0)", x.broken(m, 0), apart[m]);
            check.due("broken(" + m + ", 1)", x.broken(m, 1), best[m]);
        }
        check.due("broken(-1, 0)", x.broken(-1, 0), BAD);
        check.due("broken(41, 0)", x.broken(41, 0), BAD);
        check.due("broken(0, 2)", x.broken(0, 2), BAD);
        check.due("broken(0, -1)", x.broken(0, -1), BAD);
        x = Check.townOf("s000;t003;r002");
        x.owed(0, 1);
        check.due("broken(0, 1) with no better", x.broken(0, 1), 0);
        check.due("broken(0, 0)", x.broken(0, 0), 1);
        check.due("broken(1, 0)", x.broken(1, 0), 0);
        check.due("broken(1, 1)", x.broken(1, 1), 1);
        check.due("broken(40, 1), the least of like ones", x.broken(40, 1), 1);
        x = Check.townOf("s000;t099;r100");
        x.owed(0, 2);
        x.owed(0, 1);
        check.due("broken(40, 0), all are left aside", x.broken(40, 0), 1);
        check.due("broken(40, 1)", x.broken(40, 1), 0);
        x.wipe(0);
        check.due("broken(0, 0) without houses", x.broken(0, 0), 0);
    }

    private void beside() {
        String[] towns = {"s005;t006", "s006;t005", "s005;t105", "s305;t205", "s005;t007", "s005;t106", "s005;t205"};
        int[] apart = {0, 0, 0, 0, 1, 1, 1};
        for (int i = 0; i < towns.length; i++) {
            WalkingTown x = Check.townOf(towns[i]);
            x.owed(1, 0);
            check.due("broken(0, 0) of " + towns[i], x.broken(0, 0), apart[i]);
        }
    }

    private void well() {
        WalkingTown x = new WalkingTown();
        check.due("well(-1, 0)", x.well(-1, 0), BAD);
        check.due("well(4, 0)", x.well(4, 0), BAD);
        check.due("well(0, -1)", x.well(0, -1), BAD);
        check.due("well(0, 100)", x.well(0, 100), BAD);
        for (int n = 0; n < 8; n++) {
            check.due("well number " + n, x.well(n % 4, 99 * (n % 2)), n);
        }
        check.due("a ninth well", x.well(0, 0), FULL);
        check.due("a ninth well, BAD first", x.well(4, 0), BAD);
        check.due("count(5)", x.count(5), 8);
    }

    private void metAndDry() {
        WalkingTown x = Check.townOf("s000;t102");
        x.well(3, 0);
        x.well(0, 2);
        x.well(2, 3);
        Check.winds(x, 0, 1, 0, 2, 1);
        // feet 0 1 1 3 4; greatest rows 2 2 2 3 4
        int[] met = {2, 1, 1, 1, 0, 0};
        int[] dry = {0, 0, 0, 0, 1, 2};
        for (int week = 0; week < met.length; week++) {
            check.due("met(" + week + ")", x.met(week), met[week]);
            check.due("dry(" + week + ")", x.dry(week), dry[week]);
        }
        check.due("dry(51)", x.dry(51), 48);
        check.due("met(-1)", x.met(-1), BAD);
        check.due("met(52)", x.met(52), BAD);
        check.due("dry(-1)", x.dry(-1), BAD);
        check.due("dry(52)", x.dry(52), BAD);
        x.well(1, 4);
        check.due("met(4)", x.met(4), 1);
        check.due("dry(51)", x.dry(51), 0);
        x.wind(20, 9);
        check.due("dry(51), the end of it", x.dry(51), 32);
        for (int week = 30; week < 42; week++) {
            x.wind(week, 9);
        }
        check.due("met(51)", x.met(51), NOT);
        check.due("dry(51)", x.dry(51), NOT);
        longestOfSome();
        x = new WalkingTown();
        x.well(0, 0);
        check.due("met(0) without houses", x.met(0), 0);
        check.due("dry(51) without houses", x.dry(51), 52);
    }

    /** A tent stands just at the foot: rows 0 in weeks 0 to 2, 1 in 3 and 4, 2 in 5 to 10, 3 from 11 on. */
    private void longestOfSome() {
        WalkingTown x = Check.townOf("t000");
        Check.winds(x, 0, 0, 0, 1, 0, 1, 0, 0, 0, 0, 0, 1);
        x.well(3, 1);
        x.well(3, 3);
        int[] weeks = {0, 2, 4, 7, 8, 10, 51};
        int[] dry = {1, 3, 3, 3, 4, 6, 6};
        for (int i = 0; i < weeks.length; i++) {
            check.due("dry(" + weeks[i] + ") of some", x.dry(weeks[i]), dry[i]);
        }
    }

    private void sold() {
        WalkingTown x = Check.townOf("c097;t000;s150");
        x.wind(0, 9);
        check.due("sold(0, 1, 0)", x.sold(0, 1, 0), -2);
        check.due("sold(1, 0, 0)", x.sold(1, 0, 0), -2);
        check.due("sold(1, 2, 0)", x.sold(1, 2, 0), -3);
        check.due("sold(0, 2, 0)", x.sold(0, 2, 0), 0);
        check.due("fewest(0) is as it was", x.fewest(0), 1);
        check.due("house(0, 2) is as it was", x.house(0, 2), 97);
        check.due("queue(1, NONE) is as it was", x.queue(1, WalkingTown.NONE), 2);
        x = Check.townOf("s000;t150");
        x.wind(0, 1);
        check.due("sold(0, 1, 0), fewer", x.sold(0, 1, 0), 3);
        check.due("sold(0, 0, 0)", x.sold(0, 0, 0), -10002);
        check.due("sold(0, 2, 0)", x.sold(0, 2, 0), -10002);
        check.due("sold(-1, 0, 0)", x.sold(-1, 0, 0), -10002);
        check.due("sold(0, 1, 52)", x.sold(0, 1, 52), -10002);
        check.due("sold(0, 1, -1)", x.sold(0, 1, -1), -10002);
        for (int week = 1; week < 52; week++) {
            x.wind(week, 9);
        }
        check.due("sold(0, 1, 51)", x.sold(0, 1, 51), -10003);
        check.due("sold(0, 1, 0)", x.sold(0, 1, 0), 3);
    }
}
