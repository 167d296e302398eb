/** The edges that promises 11 to 16 name, each with a test of its own. */
final class MovesEdgesTest {
    private static final int NONE = WalkingTown.NONE;
    private static final int BAD = WalkingTown.BAD;
    private static final int NOT = WalkingTown.NOT;
    private static final String TEN = "s000;t001;r002;c003;s104;t105;r106;c207;s308;t309";

    private final Check check = new Check("MovesEdgesTest");

    public static void main(String[] args) {
        MovesEdgesTest test = new MovesEdgesTest();
        test.judgedWhat();
        test.judgedOfNothing();
        test.judgedCovered();
        test.judgedHands();
        test.judgedHandsOfEachWeek();
        test.judgedNot();
        test.judgedWhyTheFirstOfThreeTwoOne();
        test.judgedTheFirstWeek();
        test.judgedMovesInOrderAheadOfTheSand();
        test.endsOfEachHouse();
        test.endsWithThoseThatAreNotLeftAside();
        test.endsWhateverJudged();
        test.queueArguments();
        test.queueWithoutAny();
        test.queueOfLikeOnes();
        test.queueBehindTheMostMoves();
        test.queueUpToTheLastRow();
        test.needsOfEachWeek();
        test.needsJustAtTheFoot();
        test.needsUpToTheLastRow();
        test.needsThatCannotBe();
        test.needsWithoutHouses();
        test.fewestOfEachWeek();
        test.fewestWhollyInOneWeek();
        test.fewestInEachOfTheseWeeks();
        test.fewestThatIsNot();
        test.turnArguments();
        test.turnOfTheFirstAndTheLast();
        test.turnRefusals();
        test.check.end();
    }

    private static WalkingTown town(String town, String moves, int... winds) {
        WalkingTown x = Check.townOf(town);
        Check.retype(x, 1, moves);
        Check.winds(x, winds);
        return x;
    }

    private void judged(String why, WalkingTown x, int week, int reason) {
        check.due("judged(0): " + why, x.judged(0), week);
        check.due("judged(1): " + why, x.judged(1), reason);
    }

    // promise 11: "the WEEK (what = 0; NONE), why (1). BAD."
    private void judgedWhat() {
        check.range("judged(what)", 0, 1, BAD, what -> new WalkingTown().judged(what));
        check.range("judged(what) of ten", 0, 1, BAD, what -> Check.townOf(TEN).judged(what));
    }

    // promise 11: "NONE", "0"
    private void judgedOfNothing() {
        WalkingTown x = town("", "", 9, 9);
        x.set(0, 99);
        judged("no HOUSES under much sand", x, NONE, 0);
        x = town(TEN, "");
        x.set(1, 0);
        judged("no MOVES, no HANDS, no WINDS", x, NONE, 0);
    }

    // promise 11: "COVERED (its ROW is below FOOT)"
    private void judgedCovered() {
        for (int row = 0; row < 100; row += 11) {
            String house = (row < 10 ? "t00" : "t0") + row;
            WalkingTown x = town(house, "");
            x.set(0, row);
            judged("ROW " + row + " is the FOOT", x, NONE, 0);
            x.wind(51, 1);
            judged("ROW " + row + " is below FOOT in the last WEEK", x, 51, 1);
            x.wind(0, 1);
            judged("ROW " + row + " is below FOOT in the first WEEK", x, 0, 1);
        }
        WalkingTown x = town(TEN, "", 1);
        judged("one of ten", x, 0, 1);
        x = town("s099;t198;r299", "");
        x.set(0, 99);
        judged("not the first and not the last one", x, 0, 1);
    }

    // promise 11: "in which MOVES take more HANDS than there are (HANDS, 0 to 99; 9 at first)"
    private void judgedHands() {
        WalkingTown x = town("s000;s100;t200", "000;001;002");
        judged("9 HANDS at first", x, NONE, 0);
        Check.retype(x, 1, "000;001;002;002");
        judged("10 HANDS", x, 0, 2);
        x.set(1, 10);
        judged("as many as there are", x, NONE, 0);
        x = town("t000", "510");
        x.set(1, 0);
        judged("1 of no HANDS, in the last WEEK", x, 51, 2);
        x.set(1, 1);
        judged("1 of 1", x, NONE, 0);
        x = town("c000;s100", "000;000;000;000;000;000;000;000;000;000;000");
        x.set(1, 88);
        judged("88 of 88", x, NONE, 0);
        x.set(1, 87);
        judged("88 of 87", x, 0, 2);
        Check.retype(x, 1, "000;000;000;000;000;000;000;000;000;000;000;001;001;001");
        x.set(1, 99);
        judged("100 of 99", x, 0, 2);
    }

    // promise 11: "WEEK by WEEK", "one after the other of its MOVES"
    private void judgedHandsOfEachWeek() {
        WalkingTown x = town("s000", "000;000;010;010;510;510");
        x.set(1, 8);
        judged("HANDS are there anew in each WEEK", x, NONE, 0);
        x.set(1, 7);
        judged("two in the first WEEK", x, 0, 2);
        x = town("c000", "000;010;020");
        x.set(1, 4);
        judged("3, 4, then 5", x, 2, 2);
        x.set(1, 5);
        judged("3, 4, 5", x, NONE, 0);
        x = town("r000", "000;010");
        x.set(1, 1);
        judged("2 at first", x, 0, 2);
        x = town("r000;t100", "000;010;011;020");
        x.set(1, 2);
        judged("1 less ever after", x, NONE, 0);
    }

    // promise 11: "NOT beyond ROW 99", "one is NOT to be made"
    private void judgedNot() {
        judged("to ROW 99", town("t098", "000"), NONE, 0);
        judged("beyond it", town("t099", "000"), 0, 3);
        judged("to ROW 99 and beyond it", town("t098", "000;510"), 51, 3);
        judged("behind one of its COLUMN in ROW 99", town("t000;s099", "000"), 0, 3);
        judged("beside one of another COLUMN in ROW 99", town("t000;s199", "000"), NONE, 0);
    }

    // promise 11: "the first of 3, 2, 1 that is so in that WEEK"
    private void judgedWhyTheFirstOfThreeTwoOne() {
        WalkingTown x = town("s099;t100;c200", "000", 1);
        x.set(1, 0);
        judged("NOT and COVERED", x, 0, 3);
        Check.retype(x, 1, "001;000");
        judged("HANDS ahead of NOT, and COVERED", x, 0, 3);
        Check.retype(x, 1, "000;001");
        judged("NOT ahead of HANDS, and COVERED", x, 0, 3);
        Check.retype(x, 1, "001");
        judged("HANDS and COVERED", x, 0, 2);
        x.wind(0, 0);
        judged("HANDS", x, 0, 2);
        Check.retype(x, 1, "001;000");
        judged("HANDS and NOT", x, 0, 3);
        x.wind(0, 1);
        Check.retype(x, 1, "");
        judged("COVERED", x, 0, 1);
    }

    // promise 11: "the first WEEK in which"
    private void judgedTheFirstWeek() {
        WalkingTown x = town("s099;t100", "020", 0, 1);
        judged("COVERED a WEEK ahead of NOT", x, 1, 1);
        Check.winds(x, 0, 0, 0, 1);
        judged("NOT a WEEK ahead of COVERED", x, 2, 3);
        x.set(1, 0);
        Check.retype(x, 1, "011;020");
        judged("HANDS a WEEK ahead of NOT", x, 1, 2);
    }

    // promise 11: "its MOVES are made in order, then the sand comes"
    private void judgedMovesInOrderAheadOfTheSand() {
        judged("out of the sand's way in its WEEK", town("t000", "000", 1), NONE, 0);
        judged("by a ROW too few", town("t000", "000", 2), 0, 1);
        judged("a WEEK too late", town("t000", "010", 1), 0, 1);
        judged("the second comes to ROW 2", town("t000;s001", "000;001", 2), NONE, 0);
        judged("the other way round, too", town("t000;s001", "001;000", 2), NONE, 0);
        judged("the first stays in ROW 2", town("t000;s001", "000;001", 3), 0, 1);
        judged("in order: 98, then 99", town("t097;s000", "001;000"), NONE, 0);
        judged("in order: then beyond", town("t097;s000", "001;000;001"), 0, 3);
    }

    // promise 12: HOUSES from 0 on; "Where each HOUSE is at the end of all MOVES"
    private void endsOfEachHouse() {
        check.range("ends(house) of ten", 0, 9, BAD, house -> Check.townOf(TEN).ends(house));
        check.range("ends(house) of one", 0, 0, BAD, house -> Check.townOf("c399").ends(house));
        check.due("ends(0) without any", new WalkingTown().ends(0), BAD);
        WalkingTown x = Check.townOf(TEN);
        for (int house = 0; house < 10; house++) {
            check.due("ends(" + house + ") without MOVES", x.ends(house), house);
        }
        Check.retype(x, 1, "000;510;519");
        check.due("ends(0) with the last WEEK", x.ends(0), 5);
        check.due("ends(9) with the last WEEK", x.ends(9), 10);
        check.due("ends(1), not moved", x.ends(1), 1);
    }

    // promise 12: "with those that are NOT left aside"
    private void endsWithThoseThatAreNotLeftAside() {
        WalkingTown x = town("t098;s000;r197", "000;001;000;012;511;512;512");
        check.due("ends(0): to ROW 99, no further", x.ends(0), 99);
        check.due("ends(1): never made", x.ends(1), 0);
        check.due("ends(2): those behind are made", x.ends(2), 99);
    }

    // promise 12: "whatever JUDGED"
    private void endsWhateverJudged() {
        WalkingTown x = town("s000;t001", "000;000;001", 9);
        x.set(1, 0);
        judged("too few HANDS, and COVERED", x, 0, 2);
        check.due("ends(0)", x.ends(0), 3);
        check.due("ends(1)", x.ends(1), 4);
    }

    // promise 13: "so many MOVES of the QUEUE (0 to 40)", "house = NONE", HOUSES from 0 on
    private void queueArguments() {
        check.range("queue(moves, NONE)", 0, 40, BAD, moves -> Check.townOf(TEN).queue(moves, NONE));
        check.range("queue(moves, 9)", 0, 40, BAD, moves -> Check.townOf(TEN).queue(moves, 9));
        check.range("queue(0, house)", NONE, 9, BAD, house -> Check.townOf(TEN).queue(0, house));
        check.range("queue(40, house) of one", NONE, 0, BAD, house -> Check.townOf("s000").queue(40, house));
    }

    // promise 13: "NONE without any"
    private void queueWithoutAny() {
        check.range("queue(moves, NONE) without any", 0, 40, BAD, moves -> new WalkingTown().queue(moves, NONE));
        WalkingTown x = new WalkingTown();
        check.due("queue(0, NONE) without any", x.queue(0, NONE), NONE);
        check.due("queue(40, NONE) without any", x.queue(40, NONE), NONE);
        check.due("queue(0, 0) without any", x.queue(0, 0), BAD);
        check.due("queue(41, NONE) without any", x.queue(41, NONE), BAD);
    }

    // promise 13: "that with the least ROW, of like ones the least number"
    private void queueOfLikeOnes() {
        WalkingTown x = Check.townOf("s301;t201;r101;c001");
        int[] next = {0, 1, 2, 3, 0, 1, 2, 3};
        for (int moves = 0; moves < next.length; moves++) {
            check.due("queue(" + moves + ", NONE)", x.queue(moves, NONE), next[moves]);
        }
        x = Check.townOf("s302;t201;r102;c001");
        check.due("queue(0, NONE): the least ROW", x.queue(0, NONE), 1);
        check.due("queue(1, NONE): the other one of it", x.queue(1, NONE), 3);
        check.due("queue(2, NONE): of ROW 2 the first", x.queue(2, NONE), 0);
    }

    // promise 13: the 40th MOVE
    private void queueBehindTheMostMoves() {
        WalkingTown x = Check.townOf("t010");
        check.due("queue(0, 0)", x.queue(0, 0), 10);
        check.due("queue(1, 0)", x.queue(1, 0), 11);
        check.due("queue(39, 0)", x.queue(39, 0), 49);
        check.due("queue(40, 0)", x.queue(40, 0), 50);
        check.due("queue(40, NONE)", x.queue(40, NONE), 0);
    }

    // promise 13: "NOT beyond ROW 99"
    private void queueUpToTheLastRow() {
        for (int moves = 0; moves <= 40; moves++) {
            int row = Math.min(99, 95 + moves);
            check.due("queue(" + moves + ", 0) from 95", Check.townOf("t095").queue(moves, 0), row);
        }
        WalkingTown x = Check.townOf("t098;s197");
        check.due("queue(1, NONE): of ROW 98 the first", x.queue(1, NONE), 0);
        check.due("queue(3, 0)", x.queue(3, 0), 99);
        check.due("queue(3, 1)", x.queue(3, 1), 99);
        check.due("queue(40, NONE): next, though NOT to be moved", x.queue(40, NONE), 0);
    }

    // promise 14: WEEKS 0 to 51
    private void needsOfEachWeek() {
        check.range("needs(week)", 0, 51, BAD, week -> Check.townOf(TEN).needs(week));
        check.range("needs(week) without any", 0, 51, BAD, week -> new WalkingTown().needs(week));
        WalkingTown x = Check.townOf("t000");
        x.wind(0, 1);
        x.wind(51, 1);
        check.due("needs(0)", x.needs(0), 1);
        check.due("needs(50)", x.needs(50), 1);
        check.due("needs(51)", x.needs(51), 2);
    }

    // promise 14: "the fewest MOVES behind which no HOUSE is COVERED"
    private void needsJustAtTheFoot() {
        WalkingTown x = Check.townOf("t005;s106");
        x.set(0, 5);
        check.due("needs(0), the FOOT at the hindmost", x.needs(0), 0);
        x.set(0, 6);
        check.due("needs(0), a ROW on", x.needs(0), 1);
        x.set(0, 7);
        check.due("needs(0), two ROWS on", x.needs(0), 3);
    }

    // promise 14: up to ROW 99
    private void needsUpToTheLastRow() {
        WalkingTown x = Check.townOf("t000;t100;t200;t300");
        x.set(0, 99);
        check.due("needs(0), all to ROW 99", x.needs(0), 396);
        x.wind(0, 1);
        check.due("needs(0), a ROW on", x.needs(0), NOT);
        x = Check.townOf("t098");
        x.set(0, 99);
        check.due("needs(0), from 98 to 99", x.needs(0), 1);
        x = Check.townOf("t099;t199;t299;t399");
        x.set(0, 99);
        check.due("needs(0), all in ROW 99", x.needs(0), 0);
        x.wind(51, 1);
        check.due("needs(51), all in ROW 99", x.needs(51), NOT);
    }

    // promise 14: "NOT: it cannot be"
    private void needsThatCannotBe() {
        WalkingTown x = Check.townOf("t098;s099;c110");
        x.set(0, 98);
        check.due("needs(0): the other COLUMN to ROW 98", x.needs(0), 88);
        x.set(0, 99);
        check.due("needs(0): no room for the first", x.needs(0), NOT);
        x = Check.townOf("t010;s099");
        x.set(0, 10);
        check.due("needs(0): the FOOT at the hindmost", x.needs(0), 0);
        x.set(0, 11);
        check.due("needs(0): no room for the hindmost", x.needs(0), NOT);
    }

    // promise 14: no HOUSE is COVERED where there is none
    private void needsWithoutHouses() {
        WalkingTown x = new WalkingTown();
        x.set(0, 99);
        for (int week = 0; week < 52; week++) {
            x.wind(week, 9);
        }
        check.due("needs(51) without any", x.needs(51), 0);
        check.due("fewest(51) without any", x.fewest(51), 0);
        check.due("turn(51, 0) without any", x.turn(51, 0), NONE);
    }

    // promise 15: "FEWEST of a WEEK n (0 to 51)"
    private void fewestOfEachWeek() {
        check.range("fewest(week)", 0, 51, BAD, week -> Check.townOf(TEN).fewest(week));
        WalkingTown x = Check.townOf("s000");
        x.wind(51, 1);
        check.due("fewest(0): it NEEDS none", x.fewest(0), 0);
        check.due("fewest(50): it NEEDS none", x.fewest(50), 0);
        check.due("fewest(51)", x.fewest(51), 4);
        x.set(1, 0);
        check.due("fewest(51) with no HANDS set", x.fewest(51), 4);
        x = Check.townOf("c000");
        x.set(0, 99);
        check.due("fewest(0), above all that set() takes", x.fewest(0), 5148);
    }

    // promise 15: "each wholly in one WEEK, as many as HANDS allow"
    private void fewestWhollyInOneWeek() {
        WalkingTown x = Check.townOf("s000;t100");
        Check.winds(x, 0, 1);
        check.due("fewest(1): 4 are not cut into 2 and 2", x.fewest(1), 4);
        Check.winds(x, 1, 0);
        check.due("fewest(0): 4 and 1 at once", x.fewest(0), 5);
        x = Check.townOf("r000;s100;r200");
        Check.winds(x, 0, 1);
        check.due("fewest(1): 2, 4, 2 in two WEEKS by their order", x.fewest(1), 6);
        Check.winds(x, 0, 0, 1);
        check.due("fewest(2): one in each of three", x.fewest(2), 4);
    }

    // promise 15: "there are in each of these WEEKS so far no fewer than it NEEDS"
    private void fewestInEachOfTheseWeeks() {
        WalkingTown x = Check.townOf("t000");
        Check.winds(x, 3, 0, 0, 0);
        check.due("fewest(0): three at once", x.fewest(0), 3);
        check.due("fewest(3): as in its first WEEK", x.fewest(3), 3);
        Check.winds(x, 0, 0, 0, 8);
        check.due("fewest(3): two in each", x.fewest(3), 2);
        Check.winds(x, 0, 0, 0, 9);
        check.due("fewest(3): one more", x.fewest(3), 3);
        Check.winds(x, 0, 5, 0, 3);
        check.due("fewest(3): by its second WEEK", x.fewest(3), 3);
        Check.winds(x, 0, 6, 0, 1);
        check.due("fewest(3): just by its second WEEK", x.fewest(3), 3);
    }

    // promise 15: "NOT: NEEDS of WEEK n is"
    private void fewestThatIsNot() {
        WalkingTown x = Check.townOf("t099");
        x.set(0, 99);
        x.wind(30, 1);
        check.due("fewest(29)", x.fewest(29), 0);
        check.due("fewest(30)", x.fewest(30), NOT);
        check.due("fewest(51)", x.fewest(51), NOT);
    }

    // promise 16: WEEKS 0 to 51; "the k-th of these MOVES (0 on)"
    private void turnArguments() {
        check.range("turn(week, 0)", 0, 51, BAD, week -> Check.townOf(TEN).turn(week, 0));
        int[] ks = {0, 1, 99, 100, 399, 400, Integer.MAX_VALUE};
        for (int k : ks) {
            check.due("turn(0, " + k + ") beyond", new WalkingTown().turn(0, k), NONE);
        }
        check.due("turn(0, -1)", new WalkingTown().turn(0, -1), BAD);
        check.due("turn(0, least)", new WalkingTown().turn(0, Integer.MIN_VALUE), BAD);
    }

    // promise 16: "the WEEK in which the k-th of these MOVES is made then; NONE beyond"
    private void turnOfTheFirstAndTheLast() {
        WalkingTown x = Check.townOf("t000");
        x.wind(51, 8);
        x.wind(50, 9);
        check.due("needs(51)", x.needs(51), 17);
        check.due("fewest(51)", x.fewest(51), 1);
        check.due("turn(51, 0)", x.turn(51, 0), 0);
        check.due("turn(51, 16)", x.turn(51, 16), 16);
        check.due("turn(51, 17)", x.turn(51, 17), NONE);
        x = Check.townOf("t000;t100;t200;t300");
        Check.winds(x, 0, 0, 3);
        check.due("fewest(2)", x.fewest(2), 4);
        int[] weeks = {0, 0, 0, 0, 1, 1, 1, 1, 2, 2, 2, 2, NONE};
        for (int k = 0; k < weeks.length; k++) {
            check.due("turn(2, " + k + ")", x.turn(2, k), weeks[k]);
        }
    }

    // promise 16: "NONE. BAD; NOT."
    private void turnRefusals() {
        WalkingTown x = Check.townOf("t099");
        x.set(0, 99);
        x.wind(1, 1);
        check.due("turn(0, 0): it NEEDS none", x.turn(0, 0), NONE);
        check.due("turn(1, 0)", x.turn(1, 0), NOT);
        check.due("turn(1, 1000), NOT ahead of NONE", x.turn(1, 1000), NOT);
        check.due("turn(1, -1), BAD ahead of NOT", x.turn(1, -1), BAD);
        check.due("turn(52, 0), BAD ahead of NOT", x.turn(52, 0), BAD);
    }
}
