/** The edges that promises 23 to 28 name, each with a test of its own. */
final class DebtsEdgesTest {
    private static final int NONE = WalkingTown.NONE;
    private static final int BAD = WalkingTown.BAD;
    private static final int NOT = WalkingTown.NOT;
    private static final int FULL = WalkingTown.FULL;
    private static final long BAD_LONG = Long.MIN_VALUE + 2;
    private static final String TEN = "s000;t001;r002;c003;s104;t105;r106;c207;s308;t309";

    private final Check check = new Check("DebtsEdgesTest");

    public static void main(String[] args) {
        DebtsEdgesTest test = new DebtsEdgesTest();
        test.debtArguments();
        test.debtsTwentyAtMost();
        test.owesArguments();
        test.owesOnItsPlot();
        test.owesJustAtTheFoot();
        test.owesBehindNeeds();
        test.owesThatIsNot();
        test.lostWeeks();
        test.lostBelowFoot();
        test.lostOfNoneAndOfAll();
        test.churchArguments();
        test.churchNoneTakesMore();
        test.churchNoMorePartsThanWeeks();
        test.churchCutUp();
        test.churchNinePartsAtMost();
        test.likelyArguments();
        test.likelyWithNoWeeks();
        test.likelyWithNoWinds();
        test.likelyAtTheLastRowThatMayBe();
        test.likelyInLowestTerms();
        test.likelyFromBegin();
        test.stoneArguments();
        test.stoneNotUnderSand();
        test.stoneByNoWinds();
        test.stoneAsManyAsOneLikes();
        test.stoneFewestAndMost();
        test.stoneTheDeepest();
        test.check.end();
    }

    // promise 23: "COLUMNS 0 to 3 and ROWS 0 to 99", "an AMOUNT (1 to 99)"
    private void debtArguments() {
        check.range("debt(column, 99, 1)", 0, 3, BAD, column -> new WalkingTown().debt(column, 99, 1));
        check.range("debt(3, row, 1)", 0, 99, BAD, row -> new WalkingTown().debt(3, row, 1));
        check.range("debt(0, 0, amount)", 1, 99, BAD, amount -> new WalkingTown().debt(0, 0, amount));
    }

    // promise 23: "DEBTS, 20 at most"; "BAD; FULL"
    private void debtsTwentyAtMost() {
        WalkingTown x = new WalkingTown();
        for (int n = 1; n <= 20; n++) {
            check.due("debt number " + n, x.debt(0, 0, 99), n);
        }
        check.due("a debt more", x.debt(0, 0, 99), FULL);
        check.due("a debt more in COLUMN 4", x.debt(4, 0, 1), BAD);
        check.due("a debt more in ROW 100", x.debt(0, 100, 1), BAD);
        check.due("a debt more of 0", x.debt(0, 0, 0), BAD);
        check.due("a debt more of 100", x.debt(0, 0, 100), BAD);
        check.due("count(6) behind refusals", x.count(6), 20);
        x.wind(0, 1);
        check.due("lost(0): all twenty of them", x.lost(0), 1980);
    }

    // promise 24: HOUSES from 0 on, WEEKS 0 to 51
    private void owesArguments() {
        check.range("owes(house, 0)", 0, 9, BAD, house -> Check.townOf(TEN).owes(house, 0));
        check.range("owes(house, 0) of one", 0, 0, BAD, house -> Check.townOf("s000").owes(house, 0));
        check.range("owes(0, week)", 0, 51, BAD, week -> Check.townOf(TEN).owes(0, week));
        check.due("owes(0, 0) without any", new WalkingTown().owes(0, 0), BAD);
    }

    private static WalkingTown debtsAround(String town) {
        WalkingTown x = Check.townOf(town);
        x.debt(1, 10, 1);
        x.debt(1, 9, 2);
        x.debt(1, 11, 4);
        x.debt(0, 10, 8);
        x.debt(2, 10, 16);
        x.debt(1, 10, 32);
        return x;
    }

    // promise 24: "those on its PLOT"
    private void owesOnItsPlot() {
        check.due("owes(0, 0), two of them", debtsAround("t110").owes(0, 0), 33);
        check.due("owes(0, 0), a ROW less", debtsAround("t109").owes(0, 0), 2);
        check.due("owes(0, 0), a ROW more", debtsAround("t111").owes(0, 0), 4);
        check.due("owes(0, 0), a COLUMN less", debtsAround("t010").owes(0, 0), 8);
        check.due("owes(0, 0), a COLUMN more", debtsAround("t210").owes(0, 0), 16);
        check.due("owes(0, 0), none there", debtsAround("t310").owes(0, 0), 0);
        check.due("owes(0, 0) without DEBTS", Check.townOf("t110").owes(0, 0), 0);
    }

    // promise 24: "if that is not GONE then"
    private void owesJustAtTheFoot() {
        WalkingTown x = debtsAround("t110");
        x.set(0, 10);
        check.due("owes(0, 0), its PLOT at the FOOT", x.owes(0, 0), 33);
        x.set(0, 11);
        check.due("owes(0, 0), its PLOT is GONE: the next one", x.owes(0, 0), 4);
        x.set(0, 12);
        check.due("owes(0, 0), no DEBT on that", x.owes(0, 0), 0);
    }

    // promise 24: "behind MOVES of the QUEUE that are NEEDS of a WEEK"
    private void owesBehindNeeds() {
        WalkingTown x = debtsAround("t109;s010");
        x.wind(51, 9);
        x.wind(50, 1);
        check.due("owes(0, 50): it NEEDS none", x.owes(0, 50), 2);
        check.due("owes(0, 51): it is a ROW on", x.owes(0, 51), 33);
        check.due("owes(1, 51): not moved", x.owes(1, 51), 8);
    }

    // promise 24: "NOT: NEEDS is"
    private void owesThatIsNot() {
        WalkingTown x = Check.townOf("t099;s198");
        x.debt(0, 99, 7);
        x.set(0, 99);
        x.wind(51, 1);
        check.due("owes(0, 50)", x.owes(0, 50), 7);
        check.due("owes(0, 51)", x.owes(0, 51), NOT);
        check.due("owes(1, 51)", x.owes(1, 51), NOT);
        check.due("owes(2, 51), BAD ahead of NOT", x.owes(2, 51), BAD);
        check.due("owes(-1, 51), BAD ahead of NOT", x.owes(-1, 51), BAD);
        check.due("owes(0, 52), BAD ahead of NOT", x.owes(0, 52), BAD);
    }

    // promise 25: WEEKS 0 to 51
    private void lostWeeks() {
        check.range("lost(week)", 0, 51, BAD, week -> debtsAround("").lost(week));
        WalkingTown x = debtsAround("");
        x.set(0, 10);
        x.wind(51, 1);
        check.due("lost(50)", x.lost(50), 2);
        check.due("lost(51)", x.lost(51), 59);
    }

    // promise 25: "all on PLOTS that are GONE": below FOOT
    private void lostBelowFoot() {
        WalkingTown x = debtsAround("");
        int[] begins = {0, 9, 10, 11, 12, 99};
        int[] due = {0, 0, 2, 59, 63, 63};
        for (int i = 0; i < begins.length; i++) {
            x.set(0, begins[i]);
            check.due("lost(0) with FOOT " + begins[i], x.lost(0), due[i]);
        }
        x = new WalkingTown();
        x.debt(3, 99, 5);
        x.debt(0, 0, 6);
        check.due("lost(0) with no sand", x.lost(0), 0);
        x.wind(0, 1);
        check.due("lost(0) with ROW 0 GONE", x.lost(0), 6);
        x.wind(0, 0);
        x.set(0, 99);
        check.due("lost(0) with ROW 98 GONE", x.lost(0), 6);
        x.wind(0, 1);
        check.due("lost(0) with ROW 99 GONE", x.lost(0), 11);
    }

    // promise 25: it is told without DEBTS, and where NEEDS is NOT
    private void lostOfNoneAndOfAll() {
        WalkingTown x = Check.townOf("t099");
        x.set(0, 99);
        x.wind(0, 9);
        check.due("lost(0) without DEBTS", x.lost(0), 0);
        x.debt(0, 99, 99);
        check.due("needs(0)", x.needs(0), NOT);
        check.due("lost(0), though NEEDS is NOT", x.lost(0), 99);
    }

    // promise 26: "c (1 to 999)", "H HANDS (0 to 999)", WEEKS 0 to 51
    private void churchArguments() {
        check.range("church(c, 999, 51)", 1, 999, BAD, c -> new WalkingTown().church(c, 999, 51));
        check.range("church(1, hands, 51)", 0, 999, BAD, hands -> new WalkingTown().church(1, hands, 51));
        check.range("church(1, 2, week)", 0, 51, BAD, week -> new WalkingTown().church(1, 2, week));
    }

    // promise 26: "none takes more than H"
    private void churchNoneTakesMore() {
        WalkingTown x = new WalkingTown();
        check.due("church(1, 2, 51): 1 and 1", x.church(1, 2, 51), 1);
        check.due("church(1, 1, 51)", x.church(1, 1, 51), NONE);
        check.due("church(1, 0, 51)", x.church(1, 0, 51), NONE);
        check.due("church(998, 999, 51): 998 and 1", x.church(998, 999, 51), 1);
        check.due("church(999, 999, 51): 500 and 2", x.church(999, 999, 51), 2);
        check.due("church(999, 502, 51): 500 and 2", x.church(999, 502, 51), 2);
        check.due("church(999, 501, 51): 333 and 3", x.church(999, 501, 51), 3);
    }

    // promise 26: "no more parts than WEEKS", of "WEEKS 0 to w"
    private void churchNoMorePartsThanWeeks() {
        WalkingTown x = new WalkingTown();
        for (int n = 1; n <= 9; n++) {
            int takes = (900 + n - 1) / n + n;
            check.due("church(900, " + takes + ", " + (n - 1) + ")", x.church(900, takes, n - 1), n);
            int tooSoon = n == 1 ? BAD : NONE;
            check.due("church(900, " + takes + ", " + (n - 2) + ")", x.church(900, takes, n - 2), tooSoon);
            check.due("church(900, " + takes + ", 51)", x.church(900, takes, 51), n);
        }
    }

    // promise 26: "each takes c by n (cut up) and n"
    private void churchCutUp() {
        WalkingTown x = new WalkingTown();
        check.due("church(10, 7, 1): 5 and 2", x.church(10, 7, 1), 2);
        check.due("church(11, 7, 1): 6 and 2 are more", x.church(11, 7, 1), NONE);
        check.due("church(11, 8, 1): 6 and 2", x.church(11, 8, 1), 2);
        check.due("church(12, 8, 1): 6 and 2", x.church(12, 8, 1), 2);
        check.due("church(13, 8, 1): 7 and 2 are more", x.church(13, 8, 1), NONE);
        check.due("church(13, 8, 2): 5 and 3", x.church(13, 8, 2), 3);
    }

    // promise 26: "n parts (1 to 9)"
    private void churchNinePartsAtMost() {
        WalkingTown x = new WalkingTown();
        check.due("church(999, 120, 51): 111 and 9", x.church(999, 120, 51), 9);
        check.due("church(999, 119, 51): 100 and 10 would do", x.church(999, 119, 51), NONE);
        check.due("church(999, 120, 8)", x.church(999, 120, 8), 9);
        check.due("church(999, 120, 7)", x.church(999, 120, 7), NONE);
    }

    private void likely(WalkingTown x, String call, long above, long below, int... krn) {
        check.due("likely, " + call + ": above", x.likely(krn[0], krn[1], krn[2], 0), above);
        check.due("likely, " + call + ": below", x.likely(krn[0], krn[1], krn[2], 1), below);
    }

    // promise 27: "0 to k (0 to 9)", "a ROW (0 to 99)", "n (0 to 9) WEEKS"; "the least long and x more"
    private void likelyArguments() {
        check.range("likely(k, 0, 1, 0)", 0, 9, BAD_LONG, k -> new WalkingTown().likely(k, 0, 1, 0));
        check.range("likely(9, row, 9, 1)", 0, 99, BAD_LONG, row -> new WalkingTown().likely(9, row, 9, 1));
        check.range("likely(9, 0, n, 0)", 0, 9, BAD_LONG, n -> new WalkingTown().likely(9, 0, n, 0));
        check.range("likely(9, 0, 9, what)", 0, 1, BAD_LONG, what -> new WalkingTown().likely(9, 0, 9, what));
        check.due("likely(10, 0, 0, 0)", new WalkingTown().likely(10, 0, 0, 0), -9223372036854775806L);
    }

    // promise 27: behind 0 WEEKS it is sure, or never
    private void likelyWithNoWeeks() {
        WalkingTown x = new WalkingTown();
        likely(x, "ROW 0, no sand", 0, 1, 9, 0, 0);
        x.set(0, 10);
        likely(x, "ROW 9 below FOOT 10", 1, 1, 9, 9, 0);
        likely(x, "ROW 10 at FOOT 10", 0, 1, 9, 10, 0);
        x.set(0, 99);
        likely(x, "ROW 98 below FOOT 99", 1, 1, 0, 98, 0);
        likely(x, "ROW 99 at FOOT 99", 0, 1, 0, 99, 0);
    }

    // promise 27: WINDS of 0 alone
    private void likelyWithNoWinds() {
        WalkingTown x = new WalkingTown();
        likely(x, "ROW 0, winds of 0", 0, 1, 0, 0, 9);
        x.set(0, 1);
        likely(x, "ROW 0 below FOOT 1", 1, 1, 0, 0, 9);
        likely(x, "ROW 1 at FOOT 1", 0, 1, 0, 1, 9);
    }

    // promise 27: "FRACTIONS are told in lowest terms, above and below (0 by 1)"
    private void likelyAtTheLastRowThatMayBe() {
        WalkingTown x = new WalkingTown();
        likely(x, "the ROW that all winds of 9 cover", 1, 1000000000L, 9, 80, 9);
        likely(x, "a ROW more", 0, 1, 9, 81, 9);
        likely(x, "one wind of 9", 1, 10, 9, 8, 1);
        likely(x, "one wind, a ROW more", 0, 1, 9, 9, 1);
        likely(x, "all but winds of 0", 999999999L, 1000000000L, 9, 0, 9);
        x.set(0, 19);
        likely(x, "the last ROW", 1, 1000000000L, 9, 99, 9);
        x.set(0, 18);
        likely(x, "the last ROW, from one less", 0, 1, 9, 99, 9);
        x.set(0, 99);
        likely(x, "the last ROW, from the greatest BEGIN", 999999999L, 1000000000L, 9, 99, 9);
        likely(x, "the last ROW but one: sure", 1, 1, 9, 98, 9);
    }

    // promise 27: "in lowest terms"
    private void likelyInLowestTerms() {
        WalkingTown x = new WalkingTown();
        likely(x, "5 of 10", 1, 2, 9, 4, 1);
        likely(x, "6 of 10", 3, 5, 9, 3, 1);
        likely(x, "3 of 4", 3, 4, 1, 0, 2);
        likely(x, "1 of 4", 1, 4, 1, 1, 2);
        likely(x, "6 of 9", 2, 3, 2, 1, 2);
        likely(x, "3 of 9", 1, 3, 2, 2, 2);
    }

    // promise 27: "behind n WEEKS from BEGIN": the WINDS that are set do not count
    private void likelyFromBegin() {
        WalkingTown x = new WalkingTown();
        x.wind(0, 9);
        likely(x, "a set wind is none", 1, 2, 1, 0, 1);
        x.set(0, 1);
        likely(x, "from BEGIN 1", 1, 1, 1, 0, 1);
        likely(x, "from BEGIN 1 to ROW 1", 1, 2, 1, 1, 1);
    }

    private static WalkingTown begin(int v) {
        WalkingTown x = new WalkingTown();
        x.set(0, v);
        return x;
    }

    // promise 28: ROWS, WEEKS, "from a to b each (0 to 9, a not more)", what 0 and 1
    private void stoneArguments() {
        check.range("stone(row, 0, 0, 9, 0)", 0, 99, BAD, row -> begin(99).stone(row, 0, 0, 9, 0));
        check.range("stone(0, week, 0, 9, 0)", 0, 51, BAD, week -> begin(99).stone(0, week, 0, 9, 0));
        check.range("stone(0, 0, a, 9, 0)", 0, 9, BAD, a -> begin(99).stone(0, 0, a, 9, 0));
        check.range("stone(0, 0, 0, b, 0)", 0, 9, BAD, b -> begin(99).stone(0, 0, 0, b, 0));
        check.range("stone(0, 0, a, 5, 1)", 0, 5, BAD, a -> begin(99).stone(0, 0, a, 5, 1));
        check.range("stone(0, 0, 5, b, 1)", 5, 9, BAD, b -> begin(99).stone(0, 0, 5, b, 1));
        check.range("stone(0, 0, 0, 9, what)", 0, 1, BAD, what -> begin(99).stone(0, 0, 0, 9, what));
        check.due("stone(99, 0, 2, 1, 0), BAD ahead of NONE", new WalkingTown().stone(99, 0, 2, 1, 0), BAD);
    }

    private void stone(WalkingTown x, int row, int a, int b, int fewest, int most) {
        String call = "stone(" + row + ", 51, " + a + ", " + b;
        check.due(call + ", 0)", x.stone(row, 51, a, b, 0), fewest);
        check.due(call + ", 1)", x.stone(row, 51, a, b, 1), most);
    }

    // promise 28: "a ROW below FOOT of a WEEK"; "NONE: it is not under sand"
    private void stoneNotUnderSand() {
        stone(new WalkingTown(), 0, 1, 9, NONE, NONE);
        stone(begin(10), 11, 1, 9, NONE, NONE);
        stone(begin(10), 10, 1, 9, NONE, NONE);
        stone(begin(10), 9, 1, 9, 0, 0);
        stone(begin(99), 99, 0, 9, NONE, NONE);
        WalkingTown x = begin(10);
        x.wind(30, 1);
        check.due("stone(10, 29, 1, 9, 0)", x.stone(10, 29, 1, 9, 0), NONE);
        check.due("stone(10, 30, 1, 9, 0)", x.stone(10, 30, 1, 9, 0), 0);
    }

    // promise 28: "or by such winds never"
    private void stoneByNoWinds() {
        stone(begin(99), 0, 0, 0, NONE, NONE);
        stone(begin(1), 0, 0, 0, NONE, NONE);
        stone(begin(1), 0, 0, 1, 0, 999);
    }

    // promise 28: "999: as many as one likes"
    private void stoneAsManyAsOneLikes() {
        stone(begin(10), 9, 0, 9, 0, 999);
        stone(begin(10), 0, 0, 9, 1, 999);
        stone(begin(10), 0, 1, 9, 1, 9);
        stone(begin(99), 0, 0, 1, 98, 999);
    }

    // promise 28: "behind that WEEK's wind, not ahead of it; that WEEK itself: 0", "the fewest, the most"
    private void stoneFewestAndMost() {
        stone(begin(9), 0, 9, 9, 0, 0);
        stone(begin(10), 0, 9, 9, 1, 1);
        stone(begin(18), 0, 9, 9, 1, 1);
        stone(begin(19), 0, 9, 9, 2, 2);
        stone(begin(6), 0, 2, 3, 1, 2);
        stone(begin(7), 0, 2, 3, 2, 3);
        stone(begin(1), 0, 9, 9, 0, 0);
        stone(begin(2), 0, 1, 1, 1, 1);
    }

    // promise 28: the greatest FOOT
    private void stoneTheDeepest() {
        WalkingTown x = begin(99);
        for (int week = 0; week < 52; week++) {
            x.wind(week, 9);
        }
        stone(x, 0, 1, 1, 566, 566);
        stone(x, 0, 9, 9, 62, 62);
        stone(x, 0, 1, 9, 62, 566);
        stone(x, 99, 1, 9, 51, 467);
    }
}
