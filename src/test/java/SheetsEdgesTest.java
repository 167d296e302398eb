/** The edges that promises 29 to 36 name, each with a test of its own. */
final class SheetsEdgesTest {
    private static final int NONE = WalkingTown.NONE;
    private static final int BAD = WalkingTown.BAD;
    private static final int NULL = -11;
    private static final int INDEX = -12;
    private static final int CAST = -13;
    private static final int STORE = -14;
    private static final int SIZE = -15;
    private static final int LEAST = Integer.MIN_VALUE;
    private static final int MOST = Integer.MAX_VALUE;
    private static final String TEN = "s000;t001;r002;c003;s104;t105;r106;c207;s308;t309";

    private final Check check = new Check("SheetsEdgesTest");

    public static void main(String[] args) {
        SheetsEdgesTest test = new SheetsEdgesTest();
        test.sheetArguments();
        test.sheetBelowZero();
        test.sheetIsNew();
        test.loseArguments();
        test.loseOfLostEmptyAndFull();
        test.putArguments();
        test.putFirstAndLastItem();
        test.putInOrder();
        test.putLowestBits();
        test.getArguments();
        test.getFirstAndLastItem();
        test.getInOrder();
        test.getTheLeastInt();
        test.copyArguments();
        test.copyInOrder();
        test.copyIndexes();
        test.copyOfNone();
        test.copyOfAll();
        test.copyWithinAsTheyWere();
        test.copyFarBeyond();
        test.writeArguments();
        test.writeInOrder();
        test.writeAsManyAsThereAre();
        test.writeBehindTheMostMoves();
        test.writeToEachForm();
        test.countArguments();
        test.countOfEmptyAndFull();
        test.countOfTheLatestFinding();
        test.digestWithFewHouses();
        test.digestWithRefusals();
        test.digestOfTheseWeeksAlone();
        test.digestOfSoManyMovesAlone();
        test.digestDoesNotTellOfSheets();
        test.check.end();
    }

    private void found(WalkingTown x, String call, int got, int want) {
        check.due(call, got, want);
        check.due("count(8) behind " + call, x.count(8), -10 - want);
    }

    private static WalkingTown sheets(int... sizes) {
        WalkingTown x = new WalkingTown();
        for (int s = 0; s < sizes.length; s++) {
            x.sheet(s, s % 3, sizes[s]);
        }
        return x;
    }

    // promise 29: "SHEETS 0 .. 3", "a FORM: 0 bytes, 1 shorts, 2 ints, of 0 to 60 items"
    private void sheetArguments() {
        check.range("sheet(s, 0, 1)", 0, 3, BAD, s -> new WalkingTown().sheet(s, 0, 1));
        check.range("sheet(0, form, 1)", 0, 2, BAD, form -> new WalkingTown().sheet(0, form, 1));
        for (int form = 0; form < 3; form++) {
            check.due("sheet(3, " + form + ", 0)", new WalkingTown().sheet(3, form, 0), 0);
            check.due("sheet(3, " + form + ", 60)", new WalkingTown().sheet(3, form, 60), 60);
            check.due("sheet(3, " + form + ", 61)", new WalkingTown().sheet(3, form, 61), BAD);
            check.due("sheet(3, " + form + ", most)", new WalkingTown().sheet(3, form, MOST), BAD);
        }
    }

    // promise 29: "BAD: SHEET, FORM, above 60; SIZE"
    private void sheetBelowZero() {
        WalkingTown x = new WalkingTown();
        check.due("sheet(4, 0, -1), BAD ahead of SIZE", x.sheet(4, 0, -1), BAD);
        check.due("sheet(-1, 0, -1), BAD ahead of SIZE", x.sheet(-1, 0, -1), BAD);
        check.due("sheet(0, 3, -1), BAD ahead of SIZE", x.sheet(0, 3, -1), BAD);
        check.due("sheet(0, -1, -1), BAD ahead of SIZE", x.sheet(0, -1, -1), BAD);
        check.due("sheet(0, 0, 61)", x.sheet(0, 0, 61), BAD);
        check.due("count(8) behind BAD", x.count(8), 0);
        found(x, "sheet(0, 0, -1)", x.sheet(0, 0, -1), SIZE);
        found(x, "sheet(3, 2, least)", x.sheet(3, 2, LEAST), SIZE);
        found(x, "lose(0): it is LOST still", x.lose(0), NULL);
        x = sheets(2);
        x.put(0, 0, 1, 7);
        found(x, "sheet(0, 1, -1) of one that is there", x.sheet(0, 1, -1), SIZE);
        check.due("sheet(0, 1, 61) of one that is there", x.sheet(0, 1, 61), BAD);
        check.due("get(0, 0, 1) is as it was", x.get(0, 0, 1), 7);
        check.due("lose(0), as many as it had", x.lose(0), 2);
    }

    // promise 29: "a new row of a FORM with n items", "(0 at first)"
    private void sheetIsNew() {
        WalkingTown x = sheets(60);
        for (int i = 0; i < 60; i++) {
            check.due("item " + i + " at first", x.get(0, 0, i), 0);
            x.put(0, 0, i, 1 + i);
        }
        check.due("sheet(0, 2, 3)", x.sheet(0, 2, 3), 3);
        check.due("get(0, 2, 0) of the new one", x.get(0, 2, 0), 0);
        check.due("get(0, 2, 3) of the new one", x.get(0, 2, 3), LEAST);
        check.due("count(8): INDEX", x.count(8), 2);
        check.due("get(0, 0, 0), of another FORM now", x.get(0, 0, 0), LEAST);
        check.due("count(8): CAST", x.count(8), 3);
        check.due("sheet(0, 0, 60)", x.sheet(0, 0, 60), 60);
        check.due("get(0, 0, 59) of the newest", x.get(0, 0, 59), 0);
        x.put(0, 0, 5, 9);
        x.lose(0);
        x.sheet(0, 0, 6);
        check.due("get(0, 0, 5) behind lose()", x.get(0, 0, 5), 0);
    }

    // promise 30: "SHEETS 0 .. 3"
    private void loseArguments() {
        check.range("lose(s)", 0, 3, BAD, s -> sheets(1, 1, 1, 1).lose(s));
        check.range("lose(s) of LOST ones", 0, 3, BAD, s -> new WalkingTown().lose(s));
        WalkingTown x = new WalkingTown();
        check.due("lose(4), BAD ahead of NULL", x.lose(4), BAD);
        check.due("count(8) behind BAD", x.count(8), 0);
    }

    // promise 30: "It is LOST: how many items it had. BAD; NULL."
    private void loseOfLostEmptyAndFull() {
        int[] sizes = {0, 1, 60, 59};
        WalkingTown x = sheets(sizes);
        for (int s = 0; s < 4; s++) {
            check.due("lose(" + s + ")", x.lose(s), sizes[s]);
            found(x, "lose(" + s + ") again", x.lose(s), NULL);
            check.due("count(8) behind a sheet that is there", x.sheet(s, 0, 0), 0);
        }
        check.due("count(8) is the latest still", x.count(8), 1);
    }

    // promise 31: BAD: no such SHEET, no such FORM
    private void putArguments() {
        check.range("put(s, 0, 0, 1)", 0, 3, BAD, s -> new WalkingTown().put(s, 0, 0, 1));
        check.range("put(0, form, 0, 1)", 0, 2, BAD, form -> sheets(1).put(0, form, 0, 1));
    }

    // promise 31: "INDEX: there is no such item"
    private void putFirstAndLastItem() {
        int[] sizes = {1, 2, 59, 60};
        for (int size : sizes) {
            check.range("put(0, 0, i, 1) of " + size, 0, size - 1, INDEX, i -> sheets(size).put(0, 0, i, 1));
            check.range("put(1, 1, i, 1) of " + size, 0, size - 1, INDEX, i -> sheets(0, size).put(1, 1, i, 1));
            check.range("put(2, 2, i, 1) of " + size, 0, size - 1, INDEX, i -> sheets(0, 0, size).put(2, 2, i, 1));
        }
        check.due("put(0, 0, 0, 1) of no items", sheets(0).put(0, 0, 0, 1), INDEX);
        WalkingTown x = sheets(60);
        check.due("put(0, 0, 0, 5)", x.put(0, 0, 0, 5), 1);
        check.due("put(0, 0, 59, 6)", x.put(0, 0, 59, 6), 1);
        found(x, "put(0, 0, 60, 7)", x.put(0, 0, 60, 7), INDEX);
        found(x, "put(0, 0, -1, 8)", x.put(0, 0, -1, 8), INDEX);
        for (int i = 0; i < 60; i++) {
            check.due("item " + i, x.get(0, 0, i), i == 0 ? 5 : i == 59 ? 6 : 0);
        }
    }

    // promise 31: "BAD; NULL; CAST; INDEX"
    private void putInOrder() {
        WalkingTown x = new WalkingTown();
        check.due("put(4, 0, -1, 1)", x.put(4, 0, -1, 1), BAD);
        check.due("put(0, 3, -1, 1), BAD ahead of NULL", x.put(0, 3, -1, 1), BAD);
        check.due("count(8) behind BAD", x.count(8), 0);
        found(x, "put(0, 1, -1, 1), NULL ahead of INDEX", x.put(0, 1, -1, 1), NULL);
        x.sheet(0, 0, 2);
        x.lose(0);
        found(x, "put(0, 1, 2, 1), NULL ahead of CAST", x.put(0, 1, 2, 1), NULL);
        x.sheet(0, 0, 2);
        check.due("put(0, 3, 0, 1), BAD ahead of CAST", x.put(0, 3, 0, 1), BAD);
        check.due("put(0, -1, 2, 1), BAD ahead of INDEX", x.put(0, -1, 2, 1), BAD);
        for (int form = 1; form < 3; form++) {
            found(x, "put(0, " + form + ", 0, 1)", x.put(0, form, 0, 1), CAST);
            found(x, "put(0, " + form + ", 2, 1), CAST ahead of INDEX", x.put(0, form, 2, 1), CAST);
        }
        found(x, "put(0, 0, 2, 1)", x.put(0, 0, 2, 1), INDEX);
        check.due("get(0, 0, 0) behind refusals", x.get(0, 0, 0), 0);
        check.due("get(0, 0, 1) behind refusals", x.get(0, 0, 1), 0);
    }

    // promise 31: "the lowest bits that it has, with its sign"
    private void putLowestBits() {
        int[] values = {0, -1, 127, 128, -128, -129, 255, 256, 32767, 32768, -32768, -32769, 65535, 65536, MOST, LEAST};
        int[] bytes = {0, -1, 127, -128, -128, 127, -1, 0, -1, 0, 0, -1, -1, 0, -1, 0};
        int[] shorts = {0, -1, 127, 128, -128, -129, 255, 256, 32767, -32768, -32768, 32767, -1, 0, -1, 0};
        WalkingTown x = sheets(1, 1, 1);
        for (int n = 0; n < values.length; n++) {
            for (int s = 0; s < 3; s++) {
                check.due("put(" + s + ", " + s + ", 0, " + values[n] + ")", x.put(s, s, 0, values[n]), 1);
            }
            check.due("a byte of " + values[n], x.get(0, 0, 0), bytes[n]);
            check.due("a short of " + values[n], x.get(1, 1, 0), shorts[n]);
            check.due("an int of " + values[n], x.get(2, 2, 0), values[n]);
        }
    }

    // promise 32: BAD: no such SHEET, no such FORM
    private void getArguments() {
        check.range("get(s, 0, 0)", 0, 3, LEAST, s -> {
            WalkingTown x = new WalkingTown();
            x.sheet(s, 0, 1);
            return x.get(s, 0, 0);
        });
        for (int form = 0; form < 3; form++) {
            WalkingTown x = sheets(1, 1, 1);
            check.due("get(" + form + ", " + form + ", 0)", x.get(form, form, 0), 0);
            check.due("get(" + form + ", -1, 0)", x.get(form, -1, 0), LEAST);
            check.due("get(" + form + ", 3, 0)", x.get(form, 3, 0), LEAST);
            check.due("count(8) behind BAD", x.count(8), 0);
        }
    }

    // promise 32: INDEX
    private void getFirstAndLastItem() {
        int[] sizes = {1, 2, 59, 60};
        for (int size : sizes) {
            check.range("get(0, 0, i) of " + size, 0, size - 1, LEAST, i -> sheets(size).get(0, 0, i));
            check.range("get(1, 1, i) of " + size, 0, size - 1, LEAST, i -> sheets(0, size).get(1, 1, i));
            check.range("get(2, 2, i) of " + size, 0, size - 1, LEAST, i -> sheets(0, 0, size).get(2, 2, i));
        }
        check.due("get(0, 0, 0) of no items", sheets(0).get(0, 0, 0), LEAST);
    }

    private void unread(WalkingTown x, String call, int got, int finding) {
        check.due(call, got, LEAST);
        check.due("count(8) behind " + call, x.count(8), finding);
    }

    // promise 32: "BAD: the least int; so are NULL, CAST, INDEX (count() 8 tells)"
    private void getInOrder() {
        WalkingTown x = new WalkingTown();
        unread(x, "get(4, 0, 0)", x.get(4, 0, 0), 0);
        unread(x, "get(0, 3, 0), BAD ahead of NULL", x.get(0, 3, 0), 0);
        unread(x, "get(0, 0, -1), NULL ahead of INDEX", x.get(0, 0, -1), 1);
        x.sheet(0, 0, 2);
        x.lose(0);
        unread(x, "get(0, 1, 0), NULL ahead of CAST", x.get(0, 1, 0), 1);
        x.sheet(0, 0, 2);
        unread(x, "get(0, 1, 2), CAST ahead of INDEX", x.get(0, 1, 2), 3);
        unread(x, "get(0, 3, 0), BAD ahead of CAST", x.get(0, 3, 0), 3);
        unread(x, "get(0, 0, 2)", x.get(0, 0, 2), 2);
        unread(x, "get(0, 2, 0)", x.get(0, 2, 0), 3);
        unread(x, "get(0, 0, -1)", x.get(0, 0, -1), 2);
        unread(x, "get(0, -1, 9), BAD ahead of INDEX", x.get(0, -1, 9), 2);
        check.due("get(0, 0, 1)", x.get(0, 0, 1), 0);
        check.due("count(8) behind an item", x.count(8), 2);
    }

    // promise 32: an item that is the least int is no refusal
    private void getTheLeastInt() {
        WalkingTown x = sheets(1, 1, 1);
        x.put(2, 2, 0, LEAST);
        unread(x, "get(2, 2, 0) of the least int", x.get(2, 2, 0), 0);
    }

    private static WalkingTown threeShorts() {
        WalkingTown x = new WalkingTown();
        x.sheet(0, 1, 5);
        x.sheet(1, 1, 3);
        x.sheet(2, 2, 5);
        for (int i = 0; i < 5; i++) {
            x.put(0, 1, i, 10 + i);
        }
        return x;
    }

    private void items(WalkingTown x, String behind, int s, int... due) {
        for (int i = 0; i < due.length; i++) {
            check.due("item " + i + " of " + s + " behind " + behind, x.get(s, 1, i), due[i]);
        }
    }

    // promise 33: "BAD: the SHEETS"
    private void copyArguments() {
        check.range("copy(s, 0, 0, 0, 1)", 0, 3, BAD, s -> threeShorts().copy(s, 0, 0, 0, 1));
        check.range("copy(0, 0, t, 0, 1)", 0, 3, BAD, t -> threeShorts().copy(0, 0, t, 0, 1));
    }

    // promise 33: "BAD: the SHEETS; NULL: s, t; STORE; INDEX"
    private void copyInOrder() {
        WalkingTown x = threeShorts();
        check.due("copy(3, 0, 4, 0, 1), BAD ahead of NULL", x.copy(3, 0, 4, 0, 1), BAD);
        check.due("copy(4, 0, 3, 0, 1), BAD ahead of NULL", x.copy(4, 0, 3, 0, 1), BAD);
        check.due("copy(0, 9, -1, 9, 9), BAD ahead of INDEX", x.copy(0, 9, -1, 9, 9), BAD);
        check.due("count(8) behind BAD", x.count(8), 0);
        found(x, "copy(3, 0, 2, 0, 1)", x.copy(3, 0, 2, 0, 1), NULL);
        found(x, "copy(2, 0, 3, 0, 1), NULL ahead of STORE", x.copy(2, 0, 3, 0, 1), NULL);
        found(x, "copy(0, -1, 3, 0, -1), NULL ahead of INDEX", x.copy(0, -1, 3, 0, -1), NULL);
        found(x, "copy(3, 0, 3, 0, 0), twice NULL", x.copy(3, 0, 3, 0, 0), NULL);
        found(x, "copy(0, 0, 2, 0, 1)", x.copy(0, 0, 2, 0, 1), STORE);
        found(x, "copy(2, 0, 0, 0, 1)", x.copy(2, 0, 0, 0, 1), STORE);
        found(x, "copy(2, 0, 0, 0, 0) of none", x.copy(2, 0, 0, 0, 0), STORE);
        found(x, "copy(0, 9, 2, 0, -1), STORE ahead of INDEX", x.copy(0, 9, 2, 0, -1), STORE);
        x.sheet(3, 0, 5);
        found(x, "copy(3, 0, 0, 0, 1), bytes to shorts", x.copy(3, 0, 0, 0, 1), STORE);
        items(x, "refusals", 0, 10, 11, 12, 13, 14);
        items(x, "refusals", 1, 0, 0, 0);
    }

    // promise 33: "INDEX: i, j or n below 0, not so many there"
    private void copyIndexes() {
        check.range("copy(0, i, 1, 0, 1)", 0, 4, INDEX, i -> threeShorts().copy(0, i, 1, 0, 1));
        check.range("copy(0, 0, 1, j, 1)", 0, 2, INDEX, j -> threeShorts().copy(0, 0, 1, j, 1));
        check.range("copy(0, 0, 1, 0, n)", 0, 3, INDEX, n -> threeShorts().copy(0, 0, 1, 0, n));
        check.range("copy(0, 0, 1, 1, n)", 0, 2, INDEX, n -> threeShorts().copy(0, 0, 1, 1, n));
        check.range("copy(1, 0, 0, 0, n)", 0, 3, INDEX, n -> threeShorts().copy(1, 0, 0, 0, n));
        check.range("copy(1, 2, 0, 0, n)", 0, 1, INDEX, n -> threeShorts().copy(1, 2, 0, 0, n));
        check.range("copy(1, 0, 0, j, 3)", 0, 2, INDEX, j -> threeShorts().copy(1, 0, 0, j, 3));
        check.range("copy(0, i, 1, 0, 3)", 0, 2, INDEX, i -> threeShorts().copy(0, i, 1, 0, 3));
        WalkingTown x = threeShorts();
        found(x, "copy(0, 3, 1, 0, 3)", x.copy(0, 3, 1, 0, 3), INDEX);
        found(x, "copy(0, 0, 1, 1, 3)", x.copy(0, 0, 1, 1, 3), INDEX);
        items(x, "refusals", 1, 0, 0, 0);
    }

    // promise 33: "of n 0, too: i or j above the size"
    private void copyOfNone() {
        check.range("copy(0, i, 1, 0, 0)", 0, 5, INDEX, i -> threeShorts().copy(0, i, 1, 0, 0));
        check.range("copy(0, 0, 1, j, 0)", 0, 3, INDEX, j -> threeShorts().copy(0, 0, 1, j, 0));
        WalkingTown x = threeShorts();
        check.due("copy(0, 5, 1, 3, 0)", x.copy(0, 5, 1, 3, 0), 1);
        found(x, "copy(0, 6, 1, 3, 0)", x.copy(0, 6, 1, 3, 0), INDEX);
        found(x, "copy(0, 5, 1, 4, 0)", x.copy(0, 5, 1, 4, 0), INDEX);
        items(x, "copies of none", 1, 0, 0, 0);
        x.sheet(3, 1, 0);
        check.due("copy(3, 0, 3, 0, 0) of no items", x.copy(3, 0, 3, 0, 0), 1);
        check.due("copy(0, 0, 3, 0, 0) to no items", x.copy(0, 0, 3, 0, 0), 1);
        found(x, "copy(3, 0, 0, 0, 1) of no items", x.copy(3, 0, 0, 0, 1), INDEX);
        found(x, "copy(0, 0, 3, 0, 1) to no items", x.copy(0, 0, 3, 0, 1), INDEX);
    }

    // promise 33: all items of the longest rows
    private void copyOfAll() {
        WalkingTown x = new WalkingTown();
        x.sheet(0, 1, 60);
        x.sheet(3, 1, 60);
        for (int i = 0; i < 60; i++) {
            x.put(0, 1, i, 300 + i);
        }
        found(x, "copy(0, 0, 3, 0, 61)", x.copy(0, 0, 3, 0, 61), INDEX);
        found(x, "copy(0, 1, 3, 0, 60)", x.copy(0, 1, 3, 0, 60), INDEX);
        check.due("copy(0, 0, 3, 0, 60)", x.copy(0, 0, 3, 0, 60), 1);
        for (int i = 0; i < 60; i++) {
            check.due("item " + i + " of 3", x.get(3, 1, i), 300 + i);
        }
    }

    // promise 33: "to SHEET t (perhaps s, as they were)"
    private void copyWithinAsTheyWere() {
        WalkingTown x = threeShorts();
        check.due("copy(0, 0, 0, 1, 4)", x.copy(0, 0, 0, 1, 4), 1);
        items(x, "copy(0, 0, 0, 1, 4)", 0, 10, 10, 11, 12, 13);
        x = threeShorts();
        check.due("copy(0, 1, 0, 0, 4)", x.copy(0, 1, 0, 0, 4), 1);
        items(x, "copy(0, 1, 0, 0, 4)", 0, 11, 12, 13, 14, 14);
        found(x, "copy(0, 1, 0, 0, 5)", x.copy(0, 1, 0, 0, 5), INDEX);
        found(x, "copy(0, 0, 0, 1, 5)", x.copy(0, 0, 0, 1, 5), INDEX);
        items(x, "refusals", 0, 11, 12, 13, 14, 14);
    }

    // promise 33: numbers whose sums wrap around
    private void copyFarBeyond() {
        WalkingTown x = threeShorts();
        found(x, "copy(0, most, 1, 0, 1)", x.copy(0, MOST, 1, 0, 1), INDEX);
        found(x, "copy(0, 1, 1, 1, most)", x.copy(0, 1, 1, 1, MOST), INDEX);
        found(x, "copy(0, most, 1, most, most)", x.copy(0, MOST, 1, MOST, MOST), INDEX);
        found(x, "copy(0, least, 1, 0, least)", x.copy(0, LEAST, 1, 0, LEAST), INDEX);
        found(x, "copy(0, 0, 1, most, 2)", x.copy(0, 0, 1, MOST, 2), INDEX);
        items(x, "refusals", 1, 0, 0, 0);
    }

    private static WalkingTown townAndSheet(String town, int form, int size) {
        WalkingTown x = Check.townOf(town);
        x.sheet(3, form, size);
        return x;
    }

    // promise 34: "so many MOVES of the QUEUE (0 to 40)", SHEETS 0 to 3
    private void writeArguments() {
        check.range("write(moves, 3)", 0, 40, BAD, moves -> townAndSheet(TEN, 0, 10).write(moves, 3));
        check.range("write(moves, 3) without any", 0, 40, BAD, moves -> townAndSheet("", 0, 10).write(moves, 3));
        check.range("write(0, s)", 0, 3, BAD, s -> townAndSheet(TEN, 0, 10).write(0, s));
    }

    // promise 34: "BAD; NULL"
    private void writeInOrder() {
        WalkingTown x = Check.townOf(TEN);
        check.due("write(41, 0), BAD ahead of NULL", x.write(41, 0), BAD);
        check.due("write(-1, 0), BAD ahead of NULL", x.write(-1, 0), BAD);
        check.due("write(0, 4)", x.write(0, 4), BAD);
        check.due("count(8) behind BAD", x.count(8), 0);
        found(x, "write(40, 0)", x.write(40, 0), NULL);
        x = new WalkingTown();
        found(x, "write(0, 3) without any", x.write(0, 3), NULL);
    }

    // promise 34: "as many as there are items and HOUSES"
    private void writeAsManyAsThereAre() {
        int[] sizes = {0, 1, 9, 10, 11, 60};
        for (int size : sizes) {
            WalkingTown x = townAndSheet(TEN, 1, size);
            for (int i = 0; i < size; i++) {
                x.put(3, 1, i, 77);
            }
            int many = Math.min(10, size);
            check.due("write(0, 3) of " + size + " items", x.write(0, 3), many);
            for (int i = 0; i < size; i++) {
                check.due("item " + i + " of " + size, x.get(3, 1, i), i < 10 ? i : 77);
            }
        }
        check.due("write(0, 3) of one HOUSE", townAndSheet("s000", 1, 60).write(0, 3), 1);
        check.due("write(40, 3) without any", townAndSheet("", 1, 60).write(40, 3), 0);
        check.due("write(40, 3) with a FAULT", townAndSheet("s000;", 1, 60).write(40, 3), 0);
    }

    // promise 34: "behind so many MOVES"
    private void writeBehindTheMostMoves() {
        int[] moves = {0, 1, 39, 40};
        for (int m : moves) {
            WalkingTown x = townAndSheet("t010;s099", 2, 2);
            check.due("write(" + m + ", 3), NOT to be moved", x.write(m, 3), 2);
            check.due("item 0: left where it is", x.get(3, 2, 0), 10);
            x = townAndSheet("t010;s199", 2, 2);
            check.due("write(" + m + ", 3)", x.write(m, 3), 2);
            check.due("item 0: so many ROWS on", x.get(3, 2, 0), 10 + m);
            check.due("item 1: where it was", x.get(3, 2, 1), 99);
            check.due("THE TOWN is as it was", x.house(0, 2), 10);
        }
    }

    // promise 31: "by write(), too": of each FORM, up to ROW 99
    private void writeToEachForm() {
        for (int form = 0; form < 3; form++) {
            WalkingTown x = townAndSheet("t000;s199", form, 3);
            x.put(3, form, 2, -5);
            check.due("write(0, 3) to FORM " + form, x.write(0, 3), 2);
            check.due("ROW 0", x.get(3, form, 0), 0);
            check.due("ROW 99", x.get(3, form, 1), 99);
            check.due("beyond the HOUSES", x.get(3, form, 2), -5);
        }
    }

    // promise 35: 0 to 8
    private void countArguments() {
        check.range("count(what)", 0, 8, BAD, what -> new WalkingTown().count(what));
    }

    // promise 35: nothing of each, and all that there may be
    private void countOfEmptyAndFull() {
        WalkingTown x = Check.townOf(TEN);
        Check.retype(x, 1, "000;000;000;000;000;000;000;000;000;000;000;000;000;000;000");
        for (int n = 0; n < 21; n++) {
            x.owed(0, 1 + n % 9);
            x.well(0, 0);
            x.debt(0, 0, 1);
        }
        x.set(1, 99);
        x.sheet(0, 0, -1);
        int[] full = {10, 49, 59, 15, 10, 8, 20, 99, 5};
        for (int what = 0; what < full.length; what++) {
            check.due("count(" + what + ") of a full one", x.count(what), full[what]);
        }
        x.type(1, ';');
        check.due("count(2) of 60 bytes", x.count(2), 60);
        check.due("count(3) with a FAULT", x.count(3), 0);
        x.wipe(0);
        x.wipe(1);
        x.set(1, 0);
        int[] wiped = {0, 0, 0, 0, 10, 8, 20, 0, 5};
        for (int what = 0; what < wiped.length; what++) {
            check.due("count(" + what + ") of a wiped one", x.count(what), wiped[what]);
        }
    }

    // promise 35: "the number of the latest FINDING (0 before any)"
    private void countOfTheLatestFinding() {
        WalkingTown x = Check.townOf("t099");
        x.set(0, 99);
        x.wind(0, 9);
        x.needs(0);
        x.count(9);
        x.house(5, 0);
        x.likely(-1, 0, 0, 0);
        x.sold(0, 0, 0);
        check.due("count(8) behind NOT and BAD", x.count(8), 0);
        x.sheet(0, 0, 2);
        x.sheet(1, 1, 2);
        found(x, "sheet(2, 0, -1)", x.sheet(2, 0, -1), SIZE);
        found(x, "copy(0, 0, 1, 0, 0)", x.copy(0, 0, 1, 0, 0), STORE);
        found(x, "put(0, 2, 0, 0)", x.put(0, 2, 0, 0), CAST);
        found(x, "put(0, 0, 2, 0)", x.put(0, 0, 2, 0), INDEX);
        found(x, "read(2)", x.read(2), NULL);
        found(x, "copy(0, 3, 0, 0, 0)", x.copy(0, 3, 0, 0, 0), INDEX);
        check.due("put(0, 0, 1, 1)", x.put(0, 0, 1, 1), 1);
        check.due("put(4, 0, 1, 1)", x.put(4, 0, 1, 1), BAD);
        check.due("count(8) behind what is well and what is BAD", x.count(8), 2);
    }

    private static long mixed(long before, long... told) {
        long h = before;
        for (long one : told) {
            h = 31 * h + one;
        }
        return h;
    }

    /** The digest as its promise tells it, of what the other calls answer. */
    private static long digestOf(WalkingTown x) {
        long h = 17;
        for (int what = 0; what <= 7; what++) {
            h = mixed(h, x.count(what));
        }
        h = mixed(h, x.fault(0), x.fault(1));
        for (int it = 0; it < x.count(0); it++) {
            h = mixed(h, x.house(it, 0), x.house(it, 1), x.house(it, 2), x.ends(it), x.queue(9, it), x.owes(it, 10));
        }
        h = mixed(h, x.judged(0), x.judged(1));
        for (int week = 0; week <= 20; week += 10) {
            h = mixed(h, x.foot(week), x.needs(week), x.fewest(week), x.met(week), x.dry(week), x.lost(week));
        }
        h = mixed(h, x.turn(20, 0), x.turn(20, 5), x.queue(9, NONE), x.broken(12, 0), x.broken(12, 1));
        return x.count(0) >= 2 ? mixed(h, x.sold(0, 1, 20)) : h;
    }

    private static void settle(WalkingTown x) {
        Check.retype(x, 1, "000;110;200");
        Check.winds(x, 1, 0, 0, 2, 0, 0, 0, 0, 0, 1, 1, 0, 0, 0, 0, 0, 0, 0, 0, 1, 2, 9);
        x.owed(0, 1);
        x.owed(1, 2);
        x.well(0, 5);
        x.well(1, 30);
        x.debt(0, 0, 7);
        x.debt(0, 9, 8);
        x.set(1, 12);
    }

    // promise 36: "with two and more HOUSES sold(0, 1, 20)"
    private void digestWithFewHouses() {
        String[] towns = {"", "c002", "c002;s103", "c002;s103;t200", TEN, TEN + ";", "x"};
        for (String town : towns) {
            WalkingTown x = Check.townOf(town);
            check.due("digest() of " + town, x.digest(), digestOf(x));
            settle(x);
            check.due("digest() of " + town + ", settled", x.digest(), digestOf(x));
        }
        long none = mixed(17, 0, 0, 0, 0, 0, 0, 0, 9, -1, -1, -1, 0);
        none = mixed(none, 0, 0, 0, 0, 1, 0, 0, 0, 0, 0, 11, 0, 0, 0, 0, 0, 21, 0, -1, -1, -1, 0, 0);
        check.due("digest() of a new one", new WalkingTown().digest(), none);
    }

    // promise 36: "all as they are told"
    private void digestWithRefusals() {
        WalkingTown x = Check.townOf("t099;c298");
        x.set(0, 99);
        x.wind(10, 1);
        settle(x);
        x.wind(0, 0);
        check.due("needs(20)", x.needs(20), WalkingTown.NOT);
        check.due("sold(0, 1, 20)", x.sold(0, 1, 20), -10003);
        check.due("digest() with NOT", x.digest(), digestOf(x));
    }

    // promise 36: "owes(it, 10)", "turn(20, 0 and 5)", "sold(0, 1, 20)": not of the WEEKS next to these
    private void digestOfTheseWeeksAlone() {
        WalkingTown x = Check.townOf("t000");
        for (int week = 0; week < 22; week++) {
            x.wind(week, 1);
        }
        for (int row = 10; row < 13; row++) {
            x.debt(0, row, row);
        }
        check.due("owes(0, 10): of ROW 11", x.owes(0, 10), 11);
        check.due("digest() of another DEBT in each WEEK", x.digest(), digestOf(x));
        x = Check.townOf("t098;s199");
        x.set(0, 98);
        x.wind(20, 1);
        x.wind(21, 1);
        check.due("turn(19, 0)", x.turn(19, 0), NONE);
        check.due("turn(20, 0)", x.turn(20, 0), 0);
        check.due("turn(21, 0)", x.turn(21, 0), WalkingTown.NOT);
        check.due("sold(0, 1, 20)", x.sold(0, 1, 20), -3);
        check.due("digest() of WEEK 20 unlike 19 and 21", x.digest(), digestOf(x));
    }

    // promise 36: "broken(12, 0 and 1)", "queue(9, it)", "queue(9, NONE)"
    private void digestOfSoManyMovesAlone() {
        for (int row = 9; row <= 14; row++) {
            WalkingTown x = Check.townOf("t000;s1" + (row < 10 ? "0" : "") + row);
            x.owed(0, 1);
            check.due("broken(12, 1), beside behind " + row, x.broken(12, 1), row <= 12 ? row : 0);
            check.due("digest(), beside behind " + row, x.digest(), digestOf(x));
        }
    }

    // promise 36: SHEETS and count(8) are not in it, and it changes nothing
    private void digestDoesNotTellOfSheets() {
        WalkingTown x = Check.townOf(TEN);
        settle(x);
        long before = x.digest();
        x.sheet(0, 0, 5);
        x.put(0, 0, 1, 1);
        x.lose(1);
        check.due("digest() behind sheets and a FINDING", x.digest(), before);
        check.due("count(8) behind digest()", x.count(8), 1);
        x.wind(21, 8);
        check.due("digest() behind a WIND of WEEK 21", x.digest(), before);
        x.wind(20, 3);
        check.due("digest() behind one of WEEK 20: another", x.digest() == before ? 1 : 0, 0);
    }
}
