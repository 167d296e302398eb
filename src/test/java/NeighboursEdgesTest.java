/** The edges that promises 17 to 22 name, each with a test of its own. */
final class NeighboursEdgesTest {
    private static final int NONE = WalkingTown.NONE;
    private static final int BAD = WalkingTown.BAD;
    private static final int NOT = WalkingTown.NOT;
    private static final int FULL = WalkingTown.FULL;
    private static final int BAD_SALE = -10002;
    private static final int NO_SALE = -10003;
    private static final String TEN = "s000;t001;r002;c003;s104;t105;r106;c207;s308;t309";

    private final Check check = new Check("NeighboursEdgesTest");

    public static void main(String[] args) {
        NeighboursEdgesTest test = new NeighboursEdgesTest();
        test.owedArguments();
        test.owedWithItself();
        test.owedTenAtMost();
        test.owedWhetherTheyAreThereOrNot();
        test.brokenArguments();
        test.brokenOfNothing();
        test.besideInOneColumn();
        test.besideInOneRow();
        test.besideOnlyByOne();
        test.brokenWithAHouseThatThereIsNot();
        test.brokenFewestOfZeroToK();
        test.brokenFewestOfLikeOnesTheLeast();
        test.brokenWithMovesThatAreNot();
        test.wellArguments();
        test.wellsEightAtMost();
        test.metWeeks();
        test.metNotGone();
        test.metNoGreaterThanTheGreatest();
        test.metBehindNeeds();
        test.metOfNothing();
        test.metThatIsNot();
        test.dryWeeks();
        test.dryBehindOneAnother();
        test.dryOfNoneAndOfAll();
        test.dryThatIsNot();
        test.soldArguments();
        test.soldWithItself();
        test.soldBelowAndAboveZero();
        test.soldPlotsWithTheirColumns();
        test.soldThatIsNot();
        test.soldChangesNothing();
        test.check.end();
    }

    // promise 17: "Two HOUSES (0 to 9 ..)"
    private void owedArguments() {
        check.range("owed(a, 5)", 0, 9, BAD, a -> new WalkingTown().owed(a, 5));
        check.range("owed(5, b)", 0, 9, BAD, b -> new WalkingTown().owed(5, b));
        check.due("owed(0, 9)", new WalkingTown().owed(0, 9), 1);
        check.due("owed(9, 0)", new WalkingTown().owed(9, 0), 1);
        check.due("owed(10, 10)", new WalkingTown().owed(10, 10), BAD);
    }

    // promise 17: "BAD: also one with itself"
    private void owedWithItself() {
        WalkingTown x = Check.townOf(TEN);
        for (int house = 0; house < 10; house++) {
            check.due("owed(" + house + ", " + house + ")", x.owed(house, house), BAD);
        }
        check.due("count(4)", x.count(4), 0);
    }

    private static WalkingTown owingTen(String town) {
        WalkingTown x = Check.townOf(town);
        for (int n = 1; n < 10; n++) {
            x.owed(0, n);
        }
        x.owed(1, 2);
        return x;
    }

    // promise 17: "pairs, 10 at most"; "BAD; FULL"
    private void owedTenAtMost() {
        WalkingTown x = new WalkingTown();
        for (int n = 1; n <= 10; n++) {
            check.due("pair number " + n, x.owed(n - 1, n % 10), n);
        }
        check.due("an eleventh pair", x.owed(4, 9), FULL);
        check.due("an eleventh pair that was told", x.owed(0, 1), FULL);
        check.due("an eleventh with itself", x.owed(4, 4), BAD);
        check.due("an eleventh of a HOUSE 10", x.owed(10, 4), BAD);
        check.due("an eleventh of a HOUSE -1", x.owed(4, -1), BAD);
        check.due("count(4) behind refusals", x.count(4), 10);
        x = owingTen("s000;t001;r150");
        int apart = x.broken(0, 0);
        x.owed(0, 1);
        check.due("broken(0, 0) behind an eleventh", x.broken(0, 0), apart);
    }

    // promise 17: "whether they are there or not"
    private void owedWhetherTheyAreThereOrNot() {
        WalkingTown x = new WalkingTown();
        check.due("owed(0, 9) without HOUSES", x.owed(0, 9), 1);
        check.due("broken(0, 0) without HOUSES", x.broken(0, 0), 0);
        Check.retype(x, 0, TEN);
        check.due("broken(0, 0), as they are there", x.broken(0, 0), 1);
        x.wipe(0);
        check.due("count(4), as they are gone", x.count(4), 1);
        check.due("broken(0, 0), as they are gone", x.broken(0, 0), 0);
    }

    // promise 18: "so many MOVES (0 to 40)", what 0 and 1
    private void brokenArguments() {
        check.range("broken(moves, 0)", 0, 40, BAD, moves -> owingTen(TEN).broken(moves, 0));
        check.range("broken(moves, 1)", 0, 40, BAD, moves -> owingTen(TEN).broken(moves, 1));
        check.range("broken(0, what)", 0, 1, BAD, what -> owingTen(TEN).broken(0, what));
        check.range("broken(40, what) of nothing", 0, 1, BAD, what -> new WalkingTown().broken(40, what));
    }

    // promise 18: no pairs, no HOUSES
    private void brokenOfNothing() {
        check.due("broken(40, 0) of nothing", new WalkingTown().broken(40, 0), 0);
        check.due("broken(40, 1) of nothing", new WalkingTown().broken(40, 1), 0);
        check.due("broken(40, 0) without pairs", Check.townOf(TEN).broken(40, 0), 0);
        check.due("broken(40, 1) without pairs", Check.townOf(TEN).broken(40, 1), 0);
        check.due("broken(40, 0) without HOUSES", owingTen("").broken(40, 0), 0);
        String scattered = "s000;t010;r112;c210;s310;t020;r120;c220;s320;t030";
        check.due("broken(0, 0), all ten of them", owingTen(scattered).broken(0, 0), 10);
    }

    private void apart(String town, int due) {
        WalkingTown x = Check.townOf(town);
        x.owed(0, 1);
        check.due("broken(0, 0) of " + town, x.broken(0, 0), due);
        x = Check.townOf(town);
        x.owed(1, 0);
        check.due("broken(0, 0) of " + town + ", the other way round", x.broken(0, 0), due);
    }

    // promise 18: "two in one COLUMN, with ROWS that differ by 1"
    private void besideInOneColumn() {
        apart("s000;t001", 0);
        apart("s399;t398", 0);
        apart("s009;t010", 0);
        apart("s000;t002", 1);
        apart("s399;t300", 1);
    }

    // promise 18: "or in COLUMNS that do, with one ROW"
    private void besideInOneRow() {
        apart("s000;t100", 0);
        apart("s399;t299", 0);
        apart("s150;t250", 0);
        apart("s000;t200", 1);
        apart("s000;t300", 1);
    }

    // promise 18: not BESIDE by both
    private void besideOnlyByOne() {
        apart("s000;t101", 1);
        apart("s101;t200", 1);
        apart("s001;t300", 1);
        apart("s010;t101", 1);
    }

    // promise 18: "With a HOUSE that there is not, a pair is not counted"
    private void brokenWithAHouseThatThereIsNot() {
        String[] towns = {"", "s000", "s000;t050", "s000;t050;r199"};
        int[] due = {0, 0, 1, 3};
        for (int i = 0; i < towns.length; i++) {
            WalkingTown x = Check.townOf(towns[i]);
            x.owed(0, 1);
            x.owed(2, 0);
            x.owed(1, 2);
            x.owed(3, 0);
            x.owed(2, 3);
            check.due("broken(0, 0) of " + i + " HOUSES", x.broken(0, 0), due[i]);
        }
    }

    // promise 18: "of 0 to k MOVES the number with the fewest"
    private void brokenFewestOfZeroToK() {
        WalkingTown x = Check.townOf("t000;s105");
        x.owed(0, 1);
        int[] apart = {1, 1, 1, 1, 1, 0, 1, 0, 1};
        for (int k = 0; k < apart.length; k++) {
            check.due("broken(" + k + ", 0)", x.broken(k, 0), apart[k]);
        }
        check.due("broken(4, 1): none so far", x.broken(4, 1), 0);
        check.due("broken(5, 1): k itself", x.broken(5, 1), 5);
        check.due("broken(40, 1)", x.broken(40, 1), 5);
        x = Check.townOf("t010;s150");
        x.owed(0, 1);
        check.due("broken(39, 1): a MOVE too few", x.broken(39, 1), 0);
        check.due("broken(40, 1): by the 40th", x.broken(40, 1), 40);
        check.due("broken(40, 0): by the 40th", x.broken(40, 0), 0);
    }

    // promise 18: "of like ones the least"
    private void brokenFewestOfLikeOnesTheLeast() {
        WalkingTown x = Check.townOf("t000;s100");
        x.owed(0, 1);
        check.due("broken(0, 0)", x.broken(0, 0), 0);
        check.due("broken(1, 0)", x.broken(1, 0), 1);
        check.due("broken(2, 0)", x.broken(2, 0), 0);
        check.due("broken(2, 1): 0 ahead of 2", x.broken(2, 1), 0);
        check.due("broken(40, 1): 0 ahead of all", x.broken(40, 1), 0);
    }

    // promise 18: "MOVES that are NOT are left aside"
    private void brokenWithMovesThatAreNot() {
        WalkingTown x = Check.townOf("t098;s199");
        x.owed(0, 1);
        check.due("broken(0, 0)", x.broken(0, 0), 1);
        check.due("broken(1, 0): to ROW 99", x.broken(1, 0), 0);
        check.due("broken(2, 0): no further", x.broken(2, 0), 0);
        check.due("broken(40, 0): no further", x.broken(40, 0), 0);
        check.due("broken(40, 1)", x.broken(40, 1), 1);
    }

    // promise 19: "COLUMNS 0 to 3 and ROWS 0 to 99"
    private void wellArguments() {
        check.range("well(column, 99)", 0, 3, BAD, column -> new WalkingTown().well(column, 99));
        check.range("well(3, row)", 0, 99, BAD, row -> new WalkingTown().well(3, row));
    }

    // promise 19: "WELLS, 8 at most"; "its number"; "BAD; FULL"
    private void wellsEightAtMost() {
        WalkingTown x = Check.townOf("t099");
        for (int n = 0; n < 8; n++) {
            check.due("well number " + n, x.well(0, 99), n);
        }
        check.due("a ninth well", x.well(0, 99), FULL);
        check.due("a ninth well in COLUMN 4", x.well(4, 0), BAD);
        check.due("a ninth well in ROW 100", x.well(0, 100), BAD);
        check.due("a ninth well in ROW -1", x.well(0, -1), BAD);
        check.due("count(5) behind refusals", x.count(5), 8);
        check.due("met(0): eight on one PLOT", x.met(0), 8);
    }

    private static WalkingTown townAndWells(String town, int... rows) {
        WalkingTown x = Check.townOf(town);
        for (int i = 0; i < rows.length; i++) {
            x.well(i % 4, rows[i]);
        }
        return x;
    }

    // promise 20: WEEKS 0 to 51
    private void metWeeks() {
        check.range("met(week)", 0, 51, BAD, week -> townAndWells(TEN, 0, 5).met(week));
        WalkingTown x = townAndWells("t000", 0);
        x.wind(51, 1);
        check.due("met(50)", x.met(50), 1);
        check.due("met(51)", x.met(51), 0);
    }

    // promise 20: "WELLS not GONE then", "GONE, if its ROW is below FOOT"
    private void metNotGone() {
        WalkingTown x = townAndWells("t099", 0, 9, 10, 11, 99);
        check.due("met(0) with no sand", x.met(0), 5);
        x.set(0, 1);
        check.due("met(0): ROW 0 is GONE", x.met(0), 4);
        x.set(0, 10);
        check.due("met(0): ROW 9 is GONE, ROW 10 is not", x.met(0), 3);
        x.set(0, 99);
        check.due("met(0): ROW 99 is not GONE", x.met(0), 1);
    }

    // promise 20: "in ROWS no greater than the greatest of a HOUSE"
    private void metNoGreaterThanTheGreatest() {
        WalkingTown x = townAndWells("t010;s120;r215", 19, 20, 21);
        check.due("met(0): 19 and 20 of 21", x.met(0), 2);
        x = townAndWells("t000", 0, 1);
        check.due("met(0): ROW 0 alone", x.met(0), 1);
        x = townAndWells("t099", 98, 99);
        check.due("met(0): ROW 99, too", x.met(0), 2);
    }

    // promise 20: "behind NEEDS of that WEEK"
    private void metBehindNeeds() {
        WalkingTown x = townAndWells("t000;s005", 6, 7);
        check.due("met(0): it NEEDS none", x.met(0), 0);
        x.wind(0, 1);
        check.due("met(0): the tent is in ROW 6", x.met(0), 1);
        x.wind(0, 6);
        check.due("met(0): the stone one is in ROW 7", x.met(0), 2);
    }

    // promise 20: no WELLS, no HOUSES
    private void metOfNothing() {
        check.due("met(0) of nothing", new WalkingTown().met(0), 0);
        check.due("met(0) without WELLS", Check.townOf(TEN).met(0), 0);
        check.due("met(0) without HOUSES", townAndWells("", 0, 0, 1).met(0), 0);
        WalkingTown x = townAndWells("", 0, 99);
        x.set(0, 99);
        x.wind(0, 1);
        check.due("met(0) without HOUSES, all GONE", x.met(0), 0);
    }

    // promise 20: "BAD; NOT"
    private void metThatIsNot() {
        WalkingTown x = townAndWells("t099", 99);
        x.set(0, 99);
        x.wind(20, 1);
        check.due("met(19)", x.met(19), 1);
        check.due("met(20)", x.met(20), NOT);
        check.due("met(52), BAD ahead of NOT", x.met(52), BAD);
        check.due("met(-1), BAD ahead of NOT", x.met(-1), BAD);
    }

    // promise 21: "in 0 to n", WEEKS 0 to 51
    private void dryWeeks() {
        check.range("dry(week)", 0, 51, BAD, week -> townAndWells(TEN, 0, 5).dry(week));
        for (int week = 0; week < 52; week++) {
            check.due("dry(" + week + ") without WELLS", Check.townOf("t000").dry(week), week + 1);
        }
    }

    // promise 21: "the most WEEKS behind one another with none MET"
    private void dryBehindOneAnother() {
        // The tent stands at the FOOT: ROW 0 in WEEKS 0 and 1, 1 in 2, 2 in 3 to 6, 3 in 7, 4 from 8 on.
        WalkingTown x = townAndWells("t000", 1, 3);
        Check.winds(x, 0, 0, 1, 1, 0, 0, 0, 1, 1);
        int[] due = {1, 2, 2, 2, 2, 3, 4, 4, 4, 4, 4, 4, 5};
        for (int week = 0; week < due.length; week++) {
            check.due("dry(" + week + ")", x.dry(week), due[week]);
        }
        check.due("dry(51): up to the last WEEK", x.dry(51), 44);
    }

    // promise 21: 0, and all of them
    private void dryOfNoneAndOfAll() {
        check.due("dry(51), each WEEK one MET", townAndWells("t000", 0).dry(51), 0);
        check.due("dry(51), none ever", townAndWells("t000", 1).dry(51), 52);
        check.due("dry(51) of nothing", new WalkingTown().dry(51), 52);
        WalkingTown x = townAndWells("t000", 0);
        x.wind(51, 1);
        check.due("dry(50), but the last WEEK", x.dry(50), 0);
        check.due("dry(51), the last WEEK alone", x.dry(51), 1);
    }

    // promise 21: "NOT: NEEDS of one is"
    private void dryThatIsNot() {
        WalkingTown x = townAndWells("t099", 99);
        x.set(0, 99);
        x.wind(30, 1);
        check.due("dry(29)", x.dry(29), 0);
        check.due("dry(30)", x.dry(30), NOT);
        check.due("dry(51)", x.dry(51), NOT);
        check.due("dry(52), BAD ahead of NOT", x.dry(52), BAD);
        x.wind(30, 0);
        x.wind(0, 1);
        check.due("dry(0)", x.dry(0), NOT);
    }

    // promise 22: HOUSES from 0 on, WEEKS 0 to 51; "BAD: -10002"
    private void soldArguments() {
        check.range("sold(a, 5, 0)", 0, 9, BAD_SALE, a -> Check.townOf(TEN).sold(a, 5, 0));
        check.range("sold(5, b, 0)", 0, 9, BAD_SALE, b -> Check.townOf(TEN).sold(5, b, 0));
        check.range("sold(0, 1, week)", 0, 51, BAD_SALE, week -> Check.townOf(TEN).sold(0, 1, week));
        check.range("sold(1, b, 0) of two", 0, 0, BAD_SALE, b -> Check.townOf("s000;t001").sold(1, b, 0));
        check.due("sold(0, 1, 0) of one HOUSE", Check.townOf("s000").sold(0, 1, 0), BAD_SALE);
        check.due("sold(1, 0, 0) of one HOUSE", Check.townOf("s000").sold(1, 0, 0), BAD_SALE);
        check.due("sold(0, 1, 0) of none", new WalkingTown().sold(0, 1, 0), BAD_SALE);
    }

    // promise 22: "also one with itself"
    private void soldWithItself() {
        WalkingTown x = Check.townOf(TEN);
        for (int house = 0; house < 10; house++) {
            check.due("sold(" + house + ", " + house + ", 0)", x.sold(house, house, 0), BAD_SALE);
        }
    }

    // promise 22: "HANDS by which FEWEST of WEEK n is less then (below 0: more)"
    private void soldBelowAndAboveZero() {
        WalkingTown x = Check.townOf("s000;t150;r250");
        x.wind(51, 1);
        check.due("sold(0, 1, 50): none are needed", x.sold(0, 1, 50), 0);
        check.due("sold(0, 1, 51): 4 and then 1", x.sold(0, 1, 51), 3);
        check.due("sold(1, 0, 51): 4 and then 1", x.sold(1, 0, 51), 3);
        check.due("sold(0, 2, 51): 4 and then 2", x.sold(0, 2, 51), 2);
        check.due("sold(1, 2, 51): 4 and 4", x.sold(1, 2, 51), 0);
        x = Check.townOf("t000;s150;c250");
        x.wind(0, 1);
        check.due("sold(0, 1, 0): 1 and then 4", x.sold(0, 1, 0), -3);
        check.due("sold(2, 0, 0): 1 and then 3, like no refusal", x.sold(2, 0, 0), -2);
    }

    // promise 22: "change their places": the COLUMN, too
    private void soldPlotsWithTheirColumns() {
        WalkingTown x = Check.townOf("s000;t150");
        x.wind(0, 3);
        check.due("sold(0, 1, 0): three of 4 and then three of 1", x.sold(0, 1, 0), 9);
        x = Check.townOf("s000;t050");
        x.wind(0, 3);
        check.due("sold(0, 1, 0) in one COLUMN: one of 4 and then one of 1", x.sold(0, 1, 0), 3);
        check.due("sold(0, 1, 0) again", x.sold(0, 1, 0), 3);
    }

    // promise 22: "NOT, if one of both FEWEST is"; "NOT: -10003"
    private void soldThatIsNot() {
        WalkingTown x = Check.townOf("t099;s199");
        x.set(0, 99);
        x.wind(30, 1);
        check.due("sold(0, 1, 29)", x.sold(0, 1, 29), 0);
        check.due("sold(0, 1, 30)", x.sold(0, 1, 30), NO_SALE);
        check.due("sold(0, 0, 30), BAD ahead of NOT", x.sold(0, 0, 30), BAD_SALE);
        check.due("sold(0, 2, 30), BAD ahead of NOT", x.sold(0, 2, 30), BAD_SALE);
        check.due("sold(0, 1, 52), BAD ahead of NOT", x.sold(0, 1, 52), BAD_SALE);
    }

    // promise 22: "it changes nothing"
    private void soldChangesNothing() {
        WalkingTown x = owingTen(TEN);
        WalkingTown twin = owingTen(TEN);
        Check.winds(x, 1, 2, 3);
        Check.winds(twin, 1, 2, 3);
        for (int house = 1; house < 10; house++) {
            x.sold(0, house, 2);
        }
        for (int house = 0; house < 10; house++) {
            check.due("house(" + house + ", 1)", x.house(house, 1), twin.house(house, 1));
            check.due("house(" + house + ", 2)", x.house(house, 2), house);
            check.due("queue(7, " + house + ")", x.queue(7, house), twin.queue(7, house));
        }
        check.due("queue(7, NONE)", x.queue(7, NONE), twin.queue(7, NONE));
        check.due("fewest(2)", x.fewest(2), twin.fewest(2));
        check.due("digest()", x.digest(), twin.digest());
    }
}
