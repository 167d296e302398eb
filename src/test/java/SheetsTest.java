/** Promises 29 to 35. */
final class SheetsTest {
    private static final int BAD = WalkingTown.BAD;
    private static final int NULL = -11;
    private static final int INDEX = -12;
    private static final int CAST = -13;
    private static final int STORE = -14;
    private static final int SIZE = -15;
    private static final int LEAST = Integer.MIN_VALUE;

    private final Check check = new Check("SheetsTest");

    public static void main(String[] args) {
        SheetsTest test = new SheetsTest();
        test.sheetAndLose();
        test.put();
        test.get();
        test.copy();
        test.copyWithin();
        test.write();
        test.count();
        test.check.end();
    }

    private void found(WalkingTown x, String call, int got, int want) {
        check.due(call, got, want);
        check.due("count(8) behind " + call, x.count(8), -10 - want);
    }

    private void sheetAndLose() {
        WalkingTown x = new WalkingTown();
        check.due("sheet(-1, 0, 1)", x.sheet(-1, 0, 1), BAD);
        check.due("sheet(4, 0, 1)", x.sheet(4, 0, 1), BAD);
        check.due("sheet(0, -1, 1)", x.sheet(0, -1, 1), BAD);
        check.due("sheet(0, 3, 1)", x.sheet(0, 3, 1), BAD);
        check.due("sheet(0, 0, 61)", x.sheet(0, 0, 61), BAD);
        check.due("sheet(4, 0, -1), BAD first", x.sheet(4, 0, -1), BAD);
        check.due("sheet(0, 3, -1), BAD first", x.sheet(0, 3, -1), BAD);
        check.due("count(8) behind BAD", x.count(8), 0);
        found(x, "sheet(0, 0, -1)", x.sheet(0, 0, -1), SIZE);
        found(x, "sheet(0, 0, least)", x.sheet(0, 0, LEAST), SIZE);
        found(x, "lose(0)", x.lose(0), NULL);
        check.due("sheet(0, 0, 60)", x.sheet(0, 0, 60), 60);
        check.due("sheet(3, 2, 0)", x.sheet(3, 2, 0), 0);
        check.due("lose(3)", x.lose(3), 0);
        check.due("put(0, 0, 59, 5)", x.put(0, 0, 59, 5), 1);
        found(x, "sheet(0, 1, -5)", x.sheet(0, 1, -5), SIZE);
        check.due("get(0, 0, 59) is as it was", x.get(0, 0, 59), 5);
        check.due("sheet(0, 0, 60) new", x.sheet(0, 0, 60), 60);
        check.due("get(0, 0, 59) is 0 again", x.get(0, 0, 59), 0);
        check.due("lose(0)", x.lose(0), 60);
        found(x, "lose(0) again", x.lose(0), NULL);
        check.due("lose(-1)", x.lose(-1), BAD);
        check.due("lose(4)", x.lose(4), BAD);
    }

    private void put() {
        WalkingTown x = new WalkingTown();
        check.due("put(4, 0, 0, 1)", x.put(4, 0, 0, 1), BAD);
        check.due("put(-1, 0, 0, 1)", x.put(-1, 0, 0, 1), BAD);
        check.due("put(0, 3, 0, 1)", x.put(0, 3, 0, 1), BAD);
        check.due("put(0, -1, 0, 1)", x.put(0, -1, 0, 1), BAD);
        found(x, "put(0, 0, 0, 1) of a lost one", x.put(0, 0, 0, 1), NULL);
        x.sheet(0, 0, 3);
        x.sheet(1, 1, 3);
        x.sheet(2, 2, 3);
        found(x, "put(0, 1, 9, 1), cast first", x.put(0, 1, 9, 1), CAST);
        found(x, "put(0, 0, 3, 1)", x.put(0, 0, 3, 1), INDEX);
        found(x, "put(0, 0, -1, 1)", x.put(0, 0, -1, 1), INDEX);
        int[] values = {127, 128, 255, 256, -129, 32767, 32768, -32769, 65535, 70000, Integer.MAX_VALUE, LEAST};
        for (int v : values) {
            check.due("put(0, 0, 1, " + v + ")", x.put(0, 0, 1, v), 1);
            check.due("put(1, 1, 1, " + v + ")", x.put(1, 1, 1, v), 1);
            check.due("put(2, 2, 1, " + v + ")", x.put(2, 2, 1, v), 1);
            check.due("a byte of " + v, x.get(0, 0, 1), (byte) v);
            check.due("a short of " + v, x.get(1, 1, 1), (short) v);
            check.due("an int of " + v, x.get(2, 2, 1), v);
        }
        check.due("get(0, 0, 0), its neighbour", x.get(0, 0, 0), 0);
        check.due("get(0, 0, 2), its neighbour", x.get(0, 0, 2), 0);
    }

    private void get() {
        WalkingTown x = new WalkingTown();
        check.due("get(4, 0, 0)", x.get(4, 0, 0), LEAST);
        check.due("get(-1, 0, 0)", x.get(-1, 0, 0), LEAST);
        check.due("get(0, 3, 0)", x.get(0, 3, 0), LEAST);
        check.due("get(0, -1, 0)", x.get(0, -1, 0), LEAST);
        check.due("count(8) behind BAD", x.count(8), 0);
        check.due("get(0, 0, 0) of a lost one", x.get(0, 0, 0), LEAST);
        check.due("count(8)", x.count(8), 1);
        x.sheet(0, 2, 2);
        check.due("get(0, 1, 5), cast first", x.get(0, 1, 5), LEAST);
        check.due("count(8)", x.count(8), 3);
        check.due("get(0, 2, 2)", x.get(0, 2, 2), LEAST);
        check.due("count(8)", x.count(8), 2);
        check.due("get(0, 2, -1)", x.get(0, 2, -1), LEAST);
        check.due("get(0, 2, 1)", x.get(0, 2, 1), 0);
        check.due("count(8) stays", x.count(8), 2);
    }

    private static WalkingTown twoSheets() {
        WalkingTown x = new WalkingTown();
        x.sheet(0, 1, 5);
        x.sheet(1, 1, 3);
        for (int i = 0; i < 5; i++) {
            x.put(0, 1, i, 10 + i);
        }
        return x;
    }

    private void row(WalkingTown x, String call, int s, int... items) {
        for (int i = 0; i < items.length; i++) {
            check.due("item " + i + " of " + s + " behind " + call, x.get(s, 1, i), items[i]);
        }
    }

    private void copy() {
        WalkingTown x = twoSheets();
        check.due("copy(-1, 0, 0, 0, 0)", x.copy(-1, 0, 0, 0, 0), BAD);
        check.due("copy(0, 0, 4, 0, 0)", x.copy(0, 0, 4, 0, 0), BAD);
        check.due("copy(3, 0, 4, 0, 0), BAD first", x.copy(3, 0, 4, 0, 0), BAD);
        found(x, "copy(3, 0, 0, 0, 0)", x.copy(3, 0, 0, 0, 0), NULL);
        found(x, "copy(0, 9, 3, 0, 0)", x.copy(0, 9, 3, 0, 0), NULL);
        x.sheet(2, 2, 9);
        found(x, "copy(0, 9, 2, 0, -1), store first", x.copy(0, 9, 2, 0, -1), STORE);
        found(x, "copy(0, -1, 1, 0, 1)", x.copy(0, -1, 1, 0, 1), INDEX);
        found(x, "copy(0, 0, 1, -1, 1)", x.copy(0, 0, 1, -1, 1), INDEX);
        found(x, "copy(0, 0, 1, 0, -1)", x.copy(0, 0, 1, 0, -1), INDEX);
        found(x, "copy(0, 3, 1, 0, 3)", x.copy(0, 3, 1, 0, 3), INDEX);
        found(x, "copy(0, 0, 1, 0, 4)", x.copy(0, 0, 1, 0, 4), INDEX);
        found(x, "copy(0, 6, 1, 0, 0)", x.copy(0, 6, 1, 0, 0), INDEX);
        found(x, "copy(0, 0, 1, 4, 0)", x.copy(0, 0, 1, 4, 0), INDEX);
        int most = Integer.MAX_VALUE;
        found(x, "copy(0, max, 1, 0, max)", x.copy(0, most, 1, 0, most), INDEX);
        found(x, "copy(0, 1, 1, 1, max)", x.copy(0, 1, 1, 1, most), INDEX);
        row(x, "refusals", 1, 0, 0, 0);
        check.due("copy(0, 5, 1, 3, 0)", x.copy(0, 5, 1, 3, 0), 1);
        row(x, "a copy of none", 1, 0, 0, 0);
        check.due("copy(0, 3, 1, 1, 2)", x.copy(0, 3, 1, 1, 2), 1);
        row(x, "copy(0, 3, 1, 1, 2)", 1, 0, 13, 14);
        row(x, "copy(0, 3, 1, 1, 2)", 0, 10, 11, 12, 13, 14);
        check.due("copy(0, 0, 1, 0, 3)", x.copy(0, 0, 1, 0, 3), 1);
        row(x, "copy(0, 0, 1, 0, 3)", 1, 10, 11, 12);
    }

    private void copyWithin() {
        WalkingTown x = twoSheets();
        check.due("copy(0, 0, 0, 1, 4)", x.copy(0, 0, 0, 1, 4), 1);
        row(x, "copy(0, 0, 0, 1, 4)", 0, 10, 10, 11, 12, 13);
        check.due("copy(0, 2, 0, 0, 3)", x.copy(0, 2, 0, 0, 3), 1);
        row(x, "copy(0, 2, 0, 0, 3)", 0, 11, 12, 13, 12, 13);
        check.due("copy(0, 0, 0, 0, 5)", x.copy(0, 0, 0, 0, 5), 1);
        row(x, "copy(0, 0, 0, 0, 5)", 0, 11, 12, 13, 12, 13);
    }

    private void write() {
        WalkingTown x = Check.townOf("s003;t199;r100");
        check.due("write(-1, 0)", x.write(-1, 0), BAD);
        check.due("write(41, 0)", x.write(41, 0), BAD);
        check.due("write(0, 4)", x.write(0, 4), BAD);
        check.due("write(0, -1)", x.write(0, -1), BAD);
        found(x, "write(0, 0)", x.write(0, 0), NULL);
        x.sheet(0, 1, 5);
        x.put(0, 1, 3, 77);
        check.due("write(0, 0)", x.write(0, 0), 3);
        row(x, "write(0, 0)", 0, 3, 99, 0, 77, 0);
        x.wipe(0);
        check.due("write(40, 0) without houses", x.write(40, 0), 0);
        row(x, "write(40, 0)", 0, 3, 99, 0, 77, 0);
        Check.retype(x, 0, "s000;t001;r100");
        check.due("write(2, 0)", x.write(2, 0), 3);
        row(x, "write(2, 0)", 0, 2, 1, 1, 77, 0);
        x.sheet(1, 0, 2);
        check.due("write(40, 1) of two items", x.write(40, 1), 2);
        check.due("get(1, 0, 0)", x.get(1, 0, 0), x.queue(40, 0));
        check.due("get(1, 0, 1)", x.get(1, 0, 1), x.queue(40, 1));
        x.sheet(1, 2, 0);
        check.due("write(3, 1) of no items", x.write(3, 1), 0);
    }

    private void count() {
        WalkingTown x = Check.townOf("s003;t199;r100");
        Check.retype(x, 1, "000;112");
        x.owed(0, 1);
        x.well(0, 0);
        x.well(0, 0);
        x.debt(0, 0, 1);
        x.debt(0, 0, 1);
        x.debt(0, 0, 1);
        x.set(1, 33);
        x.lose(0);
        int[] due = {3, 14, 7, 2, 1, 2, 3, 33, 1};
        for (int what = 0; what < due.length; what++) {
            check.due("count(" + what + ")", x.count(what), due[what]);
        }
        check.due("count(9)", x.count(9), BAD);
        check.due("count(-1)", x.count(-1), BAD);
    }
}
