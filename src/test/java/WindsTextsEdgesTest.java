/** The edges that promises 1 to 10 name, each with a test of its own. */
final class WindsTextsEdgesTest {
    private static final int NONE = WalkingTown.NONE;
    private static final int BAD = WalkingTown.BAD;
    private static final int FULL = WalkingTown.FULL;
    private static final int NULL = -11;
    private static final String TEN = "s000;t001;r002;c003;s104;t105;r106;c207;s308;t309";

    private final Check check = new Check("WindsTextsEdgesTest");

    public static void main(String[] args) {
        WindsTextsEdgesTest test = new WindsTextsEdgesTest();
        test.newObject();
        test.winds();
        test.readUpToTheFirstThatIsNone();
        test.readAtMostAllWeeks();
        test.readFewerThanAllWeeks();
        test.beginAndHands();
        test.footOfTheFirstAndTheLastWeek();
        test.bytes();
        test.fullTexts();
        test.wipeOfEmptyAndFull();
        test.wipedBytesAreGone();
        test.texts();
        test.everyByteOfATownPart();
        test.everyByteOfAMovesPart();
        test.townNotEnded();
        test.plotsTaken();
        test.eleventhHouse();
        test.townFaultIsTheFirst();
        test.townWithFaultIsAsIfEmpty();
        test.weeksOfMoves();
        test.housesOfMoves();
        test.movesNotEnded();
        test.movesFaultIsTheFirst();
        test.movesWithFaultAreAsIfEmpty();
        test.houses();
        test.takesAtEitherEnd();
        test.check.end();
    }

    // promise 1: "An empty TOWN, no WINDS; all SHEETS are LOST."
    private void newObject() {
        WalkingTown x = new WalkingTown();
        int[] counts = {0, 0, 0, 0, 0, 0, 0, 9, 0};
        for (int what = 0; what < counts.length; what++) {
            check.due("count(" + what + ") of a new one", x.count(what), counts[what]);
        }
        check.due("foot(51) of a new one", x.foot(51), 0);
        for (int s = 0; s < 4; s++) {
            check.due("read(" + s + ") of a new one", x.read(s), NULL);
        }
    }

    // promise 2: "WEEKS are 0 to 51; the WIND of a WEEK is 0 to 9 ROWS (0 at first)"
    private void winds() {
        check.range("wind(week, 1)", 0, 51, BAD, week -> new WalkingTown().wind(week, 1));
        check.range("wind(51, v)", 0, 9, BAD, v -> new WalkingTown().wind(51, v));
        WalkingTown x = new WalkingTown();
        for (int week = 0; week < 52; week += 51) {
            check.due("wind(" + week + ", 9): 0 at first", x.wind(week, 9), 0);
            check.due("wind(" + week + ", 10)", x.wind(week, 10), BAD);
            check.due("wind(" + week + ", -1)", x.wind(week, -1), BAD);
            check.due("wind(" + week + ", 0): what it was", x.wind(week, 0), 9);
            check.due("wind(" + week + ", 1): what it was", x.wind(week, 1), 0);
        }
    }

    private static void fill(WalkingTown x, int s, int form, int... items) {
        x.sheet(s, form, items.length);
        for (int i = 0; i < items.length; i++) {
            x.put(s, form, i, items[i]);
        }
    }

    // promise 3: "up to the first that is not 0 to 9", of each FORM
    private void readUpToTheFirstThatIsNone() {
        check.range("read(s)", 0, 3, BAD, s -> new WalkingTown().read(s));
        int[] ends = {-1, 10, 127, -128};
        for (int form = 0; form < 3; form++) {
            for (int end : ends) {
                WalkingTown x = new WalkingTown();
                x.wind(2, 5);
                x.wind(3, 6);
                fill(x, 3, form, 9, 0, end, 1);
                check.due("read(3) up to " + end, x.read(3), 2);
                check.due("wind(0, 0) behind it", x.wind(0, 0), 9);
                check.due("wind(1, 0) behind it", x.wind(1, 0), 0);
                check.due("wind(2, 0), not read", x.wind(2, 0), 5);
                check.due("wind(3, 0), behind the first that is none", x.wind(3, 0), 6);
                fill(x, 3, form, end, 1);
                check.due("read(3) of " + end + " first", x.read(3), 0);
                check.due("foot(51) is as it was", x.foot(51), 0);
            }
        }
        WalkingTown x = new WalkingTown();
        fill(x, 0, 2, 1, 256, 1);
        check.due("read(0): an int of 256 is no byte of 0", x.read(0), 1);
        fill(x, 0, 1, 1, 65536, 1);
        check.due("read(0): a short of 65536 is 0", x.read(0), 3);
    }

    // promise 3: "52 at most"
    private void readAtMostAllWeeks() {
        for (int size = 52; size <= 60; size += 4) {
            WalkingTown x = new WalkingTown();
            x.sheet(0, 0, size);
            for (int i = 0; i < size; i++) {
                x.put(0, 0, i, i < 51 ? 1 : i == 51 ? 9 : 2);
            }
            check.due("read(0) of " + size + " items", x.read(0), 52);
            check.due("foot(50)", x.foot(50), 51);
            check.due("foot(51)", x.foot(51), 60);
        }
    }

    // promise 3: "item by item": no more WINDS change than there are items
    private void readFewerThanAllWeeks() {
        WalkingTown x = new WalkingTown();
        x.wind(0, 3);
        x.wind(51, 7);
        x.sheet(0, 0, 0);
        check.due("read(0) of no items", x.read(0), 0);
        check.due("foot(51) is as it was", x.foot(51), 10);
        x.sheet(0, 0, 51);
        check.due("read(0) of 51 items", x.read(0), 51);
        check.due("foot(50)", x.foot(50), 0);
        check.due("foot(51), with a wind that was not read", x.foot(51), 7);
    }

    // promise 4: "BEGIN (0 to 99; 0 at first)", "HANDS, 0 to 99; 9 at first"
    private void beginAndHands() {
        check.range("set(0, v)", 0, 99, BAD, v -> new WalkingTown().set(0, v));
        check.range("set(1, v)", 0, 99, BAD, v -> new WalkingTown().set(1, v));
        check.range("set(what, 1)", 0, 1, BAD, what -> new WalkingTown().set(what, 1));
        WalkingTown x = new WalkingTown();
        check.due("set(0, 99): 0 at first", x.set(0, 99), 0);
        check.due("set(1, 99): 9 at first", x.set(1, 99), 9);
        check.due("set(0, 100)", x.set(0, 100), BAD);
        check.due("set(1, 100)", x.set(1, 100), BAD);
        check.due("set(2, 5)", x.set(2, 5), BAD);
        check.due("set(0, 0) behind refusals", x.set(0, 0), 99);
        check.due("set(1, 0) behind refusals", x.set(1, 0), 99);
        check.due("foot(0)", x.foot(0), 0);
        check.due("count(7)", x.count(7), 0);
    }

    // promise 5: "the WINDS of all WEEKS up to it"
    private void footOfTheFirstAndTheLastWeek() {
        check.range("foot(week)", 0, 51, BAD, week -> new WalkingTown().foot(week));
        WalkingTown x = new WalkingTown();
        x.wind(0, 4);
        x.wind(51, 5);
        check.due("foot(0) has the wind of week 0", x.foot(0), 4);
        check.due("foot(1)", x.foot(1), 4);
        check.due("foot(50) has none of week 51", x.foot(50), 4);
        check.due("foot(51) has the wind of week 51", x.foot(51), 9);
        x.set(0, 99);
        check.due("foot(0) from the greatest BEGIN", x.foot(0), 103);
        for (int week = 0; week < 52; week++) {
            x.wind(week, 9);
        }
        check.due("foot(51), the greatest there is", x.foot(51), 567);
    }

    // promise 6: "A byte (0 to 255)"; texts 0 and 1
    private void bytes() {
        check.range("type(0, b)", 0, 255, BAD, b -> new WalkingTown().type(0, b));
        check.range("type(1, b)", 0, 255, BAD, b -> new WalkingTown().type(1, b));
        check.range("type(text, 48)", 0, 1, BAD, text -> new WalkingTown().type(text, 48));
    }

    private static WalkingTown typed(int text, int bytes) {
        WalkingTown x = new WalkingTown();
        for (int n = 0; n < bytes; n++) {
            x.type(text, 'x');
        }
        return x;
    }

    // promise 6: "a text of up to 60 bytes"; "BAD; FULL"
    private void fullTexts() {
        for (int text = 0; text < 2; text++) {
            WalkingTown x = typed(text, 59);
            check.due("the 60th byte", x.type(text, 255), 60);
            check.due("the 61st byte", x.type(text, 0), FULL);
            check.due("the 61st byte that is none", x.type(text, 256), BAD);
            check.due("the 61st byte that is none", x.type(text, -1), BAD);
            check.due("a text that there is not", x.type(2, 0), BAD);
            check.due("bytes behind refusals", x.count(1 + text), 60);
            check.due("bytes of the other text", x.count(2 - text), 0);
            check.due("the other text is not full", x.type(1 - text, 'x'), 1);
        }
    }

    // promise 7: "A text is empty: how many bytes it had."
    private void wipeOfEmptyAndFull() {
        for (int text = 0; text < 2; text++) {
            WalkingTown x = typed(text, 60);
            x.type(1 - text, 'y');
            check.due("wipe of a full one", x.wipe(text), 60);
            check.due("wipe of an empty one", x.wipe(text), 0);
            check.due("an empty text is well", x.fault(text), NONE);
            check.due("bytes of the other text", x.count(2 - text), 1);
            check.due("the first byte again", x.type(text, 's'), 1);
            check.due("wipe of one byte", x.wipe(text), 1);
        }
    }

    // promise 7: "A text is empty": what was typed ahead of it does not come again
    private void wipedBytesAreGone() {
        String town = "s000;t350";
        String moves = "000;511";
        for (int end = 0; end <= town.length(); end++) {
            WalkingTown x = Check.townOf(town);
            Check.retype(x, 0, town.substring(0, end));
            boolean isWell = end == 0 || end == 4 || end == 9;
            check.due("fault(0) of the first " + end + " again", x.fault(0), isWell ? NONE : end);
        }
        for (int end = 0; end <= moves.length(); end++) {
            WalkingTown x = Check.townOf(town);
            Check.retype(x, 1, moves);
            Check.retype(x, 1, moves.substring(0, end));
            boolean isWell = end == 0 || end == 3 || end == 7;
            check.due("fault(1) of the first " + end + " again", x.fault(1), isWell ? NONE : end);
        }
    }

    // promises 7 and 8: texts 0 and 1
    private void texts() {
        check.range("wipe(text)", 0, 1, BAD, text -> new WalkingTown().wipe(text));
        check.range("fault(text)", 0, 1, BAD, text -> new WalkingTown().fault(text));
    }

    private int townFault(String text) {
        return Check.townOf(text).fault(0);
    }

    private static String with(String text, int place, int b) {
        StringBuilder other = new StringBuilder(text);
        other.setCharAt(place, (char) b);
        return other.toString();
    }

    /** Each of the 256 bytes at a place of a text: those named are taken there, with any other its FAULT is there. */
    private void everyByte(int text, String well, int place, String taken) {
        for (int b = 0; b < 256; b++) {
            WalkingTown x = Check.townOf("s000;t150;r260;c370");
            Check.retype(x, text, with(well, place, b));
            boolean isTaken = taken.indexOf((char) b) >= 0;
            String call = "fault(" + text + ") with byte " + b + " at " + place + " of " + well;
            check.due(call, x.fault(text), isTaken ? NONE : place);
        }
    }

    // promise 8: "the letter of a KIND (s, t, r, c), the figure of a COLUMN, two figures of a ROW"
    private void everyByteOfATownPart() {
        String[] wells = {"s055", "t377;s055", "t377;s055;c299"};
        int[] parts = {0, 5, 5};
        for (int i = 0; i < wells.length; i++) {
            everyByte(0, wells[i], parts[i], "strc");
            everyByte(0, wells[i], parts[i] + 1, "0123");
            everyByte(0, wells[i], parts[i] + 2, "0123456789");
            everyByte(0, wells[i], parts[i] + 3, "0123456789");
        }
        everyByte(0, wells[1], 4, ";");
        everyByte(0, wells[2], 9, ";");
    }

    // promise 8: "two figures of a WEEK, the figure of a HOUSE that there is"; there are four
    private void everyByteOfAMovesPart() {
        everyByte(1, "000", 1, "0123456789");
        everyByte(1, "002", 2, "0123");
        everyByte(1, "000;512", 6, "0123");
        everyByte(1, "000;512", 3, ";");
        everyByte(1, "000;402", 5, "0123456789");
        for (int b = 0; b < 256; b++) {
            WalkingTown x = Check.townOf("s000");
            Check.retype(x, 1, with("000;000", 4, b));
            boolean isTaken = b >= '0' && b <= '5';
            check.due("fault(1) with byte " + b + " first in a part", x.fault(1), isTaken ? NONE : 4);
        }
    }

    // promise 8: "an empty text is well; of one that is not ended, its end"
    private void townNotEnded() {
        String text = "s000;t350";
        for (int end = 0; end <= text.length(); end++) {
            boolean isWell = end == 0 || end == 4 || end == 9;
            check.due("fault(0) of the first " + end, townFault(text.substring(0, end)), isWell ? NONE : end);
        }
    }

    // promise 8: "no two on one PLOT", "of the first figure of the ROW of a PLOT that is taken"
    private void plotsTaken() {
        check.due("one PLOT twice", townFault("s012;t012"), 7);
        check.due("one PLOT twice, of one KIND", townFault("s399;s399"), 7);
        check.due("one COLUMN, the next ROW", townFault("s012;t013"), NONE);
        check.due("one COLUMN, ten ROWS on", townFault("s012;t022"), NONE);
        check.due("one ROW, the next COLUMN", townFault("s012;t112"), NONE);
        check.due("taken by the second", townFault("s012;t112;r112"), 12);
        check.due("taken by the first", townFault("s012;t112;r012"), 12);
        check.due("the ROW is not ended", townFault("s012;t01"), 8);
        String nine = TEN.substring(0, 44);
        check.due("the tenth on the PLOT of the ninth", townFault(nine + ";t308"), 47);
        check.due("the tenth on the PLOT of the first", townFault(nine + ";t000"), 47);
    }

    // promise 8: "10 HOUSES at most", "of the first byte of an eleventh"
    private void eleventhHouse() {
        WalkingTown x = Check.townOf(TEN);
        check.due("fault(0) of ten", x.fault(0), NONE);
        check.due("count(0) of ten", x.count(0), 10);
        String[] more = {";", ";s", ";s3", ";s399", ";x", ";s000", ";;", ";s398;s397"};
        for (String rest : more) {
            x = Check.townOf(TEN + rest);
            check.due("fault(0) of ten and " + rest, x.fault(0), 50);
            check.due("count(0) of ten and " + rest, x.count(0), 0);
        }
        check.due("fault(0) of ten and no ;", townFault(TEN + "s"), 49);
        check.due("fault(0) of 60 bytes", townFault(TEN + ";s399;s398x"), 50);
    }

    // promise 8: "The FAULT is the place of the first byte with which it cannot go on"
    private void townFaultIsTheFirst() {
        check.due("two wrong bytes", townFault("s4x0"), 1);
        check.due("a wrong part and a wrong one", townFault("s0x0;x"), 2);
        check.due("a PLOT taken, then a wrong byte", townFault("s000;t000x"), 7);
        check.due("a wrong byte, then a PLOT taken", townFault("s000x;t000"), 4);
        check.due("a PLOT taken, then an eleventh", townFault("s000;s000;" + TEN.substring(10) + ";s399"), 7);
    }

    // promise 8: "With a FAULT it is as if it was empty."
    private void townWithFaultIsAsIfEmpty() {
        WalkingTown x = Check.townOf("s000;t150");
        x.set(0, 99);
        Check.retype(x, 1, "001");
        x.owed(0, 1);
        x.type(0, ';');
        check.due("count(0)", x.count(0), 0);
        check.due("count(1), its bytes", x.count(1), 10);
        check.due("house(0, 0)", x.house(0, 0), BAD);
        check.due("takes(0, 0)", x.takes(0, 0), BAD);
        check.due("ends(0)", x.ends(0), BAD);
        check.due("queue(0, NONE)", x.queue(0, NONE), NONE);
        check.due("needs(0)", x.needs(0), 0);
        check.due("judged(0)", x.judged(0), NONE);
        check.due("broken(0, 0)", x.broken(0, 0), 0);
        check.due("fault(1): there is no HOUSE", x.fault(1), 2);
        for (char b : "c399".toCharArray()) {
            x.type(0, b);
        }
        check.due("count(0), as it is ended", x.count(0), 3);
        check.due("fault(1), as there are HOUSES", x.fault(1), NONE);
        check.due("wipe(0)", x.wipe(0), 14);
    }

    private int movesFault(String moves) {
        WalkingTown x = Check.townOf("s000;t150;r260;c370");
        Check.retype(x, 1, moves);
        return x.fault(1);
    }

    // promise 8: "a WEEK (00 to 51; no less than the one ahead)"
    private void weeksOfMoves() {
        String[] well = {"000", "510", "090;100", "000;000", "510;510", "000;510", "190;200;200;210"};
        for (String moves : well) {
            check.due("fault(1) of " + moves, movesFault(moves), NONE);
        }
        String[] wrong = {"520", "600", "990", "52", "99"};
        for (String moves : wrong) {
            check.due("fault(1) of " + moves, movesFault(moves), 0);
            check.due("fault(1) of 510;" + moves, movesFault("510;" + moves), 4);
        }
        check.due("a WEEK 1 less than the one ahead", movesFault("100;090"), 4);
        check.due("WEEK 00 behind 01", movesFault("010;000"), 4);
        check.due("WEEK 50 behind 51", movesFault("510;500"), 4);
        check.due("less than the one ahead, more than the first", movesFault("100;300;200"), 8);
        check.due("one figure of a WEEK that there is not", movesFault("6"), 1);
    }

    // promise 8: "the figure of a HOUSE that there is"
    private void housesOfMoves() {
        for (int houses = 0; houses <= 10; houses++) {
            String town = TEN.substring(0, Math.max(0, 5 * houses - 1));
            for (int house = 0; house < 10; house++) {
                WalkingTown x = Check.townOf(town);
                Check.retype(x, 1, "51" + house);
                check.due(houses + " HOUSES: fault(1) of a move of " + house, x.fault(1), house < houses ? NONE : 2);
                check.due(houses + " HOUSES: count(3)", x.count(3), house < houses ? 1 : 0);
            }
        }
    }

    // promise 8: "an empty text is well; of one that is not ended, its end", "up to 60 bytes"
    private void movesNotEnded() {
        String text = "000;513";
        for (int end = 0; end <= text.length(); end++) {
            boolean isWell = end == 0 || end == 3 || end == 7;
            check.due("fault(1) of the first " + end, movesFault(text.substring(0, end)), isWell ? NONE : end);
        }
        StringBuilder most = new StringBuilder("000");
        for (int n = 1; n < 15; n++) {
            most.append(";").append(n < 10 ? "0" : "").append(n).append(n % 4);
        }
        check.due("fault(1) of 15 moves", movesFault(most.toString()), NONE);
        check.due("fault(1) of 15 moves and ;", movesFault(most + ";"), 60);
        check.due("fault(1) of 15 moves and x", movesFault(most + "x"), 59);
        WalkingTown x = Check.townOf("s000;t150;r260;c370");
        Check.retype(x, 1, most.toString());
        check.due("count(3) of 15 moves", x.count(3), 15);
        x.type(1, ';');
        check.due("count(3) of 15 moves and ;", x.count(3), 0);
    }

    // promise 8: "The FAULT likewise."
    private void movesFaultIsTheFirst() {
        check.due("a wrong WEEK and a wrong HOUSE", movesFault("529"), 0);
        check.due("a wrong WEEK and no HOUSE", movesFault("52x"), 0);
        check.due("a wrong HOUSE and a wrong WEEK", movesFault("009;520"), 2);
        check.due("a wrong HOUSE, not ended", movesFault("009;"), 2);
        check.due("a wrong byte behind a part", movesFault("000x520"), 3);
        check.due("a second figure that is none", movesFault("6x"), 1);
    }

    // promise 8: "With a FAULT it is as if it was empty", of MOVES
    private void movesWithFaultAreAsIfEmpty() {
        WalkingTown x = Check.townOf("s000;t150");
        x.set(1, 0);
        Check.retype(x, 1, "000");
        check.due("judged(1) with a move", x.judged(1), 2);
        x.type(1, ';');
        check.due("judged(1) with a FAULT", x.judged(1), 0);
        check.due("count(3) with a FAULT", x.count(3), 0);
        check.due("count(2), its bytes", x.count(2), 4);
        check.due("ends(0) with a FAULT", x.ends(0), 0);
        check.due("THE TOWN is as it was", x.count(0), 2);
    }

    // promise 9: HOUSES from 0 on, what 0 to 2
    private void houses() {
        for (int houses = 1; houses <= 10; houses++) {
            String town = TEN.substring(0, 5 * houses - 1);
            check.range("house(house, 2) of " + houses, 0, houses - 1, BAD, house -> Check.townOf(town).house(house, 2));
        }
        check.range("house(0, what)", 0, 2, BAD, what -> Check.townOf(TEN).house(0, what));
        check.range("house(9, what)", 0, 2, BAD, what -> Check.townOf(TEN).house(9, what));
        check.due("house(0, 0) without any", new WalkingTown().house(0, 0), BAD);
        WalkingTown x = Check.townOf("s000;c399");
        int[][] due = {{0, 0, 0}, {3, 3, 99}};
        for (int house = 0; house < 2; house++) {
            for (int what = 0; what < 3; what++) {
                check.due("house(" + house + ", " + what + ")", x.house(house, what), due[house][what]);
            }
        }
    }

    // promise 10: "the k-th MOVE (0 to 99)"; "2 and then 1 less ever after (1)", "3 and 1 more each time"
    private void takesAtEitherEnd() {
        String town = "s000;t100;r200;c300";
        check.range("takes(house, 0)", 0, 3, BAD, house -> Check.townOf(town).takes(house, 0));
        check.range("takes(house, 0) of ten", 0, 9, BAD, house -> Check.townOf(TEN).takes(house, 0));
        for (int h = 0; h < 4; h++) {
            int house = h;
            check.range("takes(" + house + ", k)", 0, 99, BAD, k -> Check.townOf(town).takes(house, k));
        }
        check.due("takes(0, 0) without any", new WalkingTown().takes(0, 0), BAD);
        WalkingTown x = Check.townOf(town);
        for (int k = 0; k <= 99; k++) {
            check.due("a stone one's move " + k, x.takes(0, k), 4);
            check.due("a tent's move " + k, x.takes(1, k), 1);
            check.due("move " + k + " on runners", x.takes(2, k), k == 0 ? 2 : 1);
            check.due("move " + k + " with a cellar", x.takes(3, k), 3 + k);
        }
    }
}
