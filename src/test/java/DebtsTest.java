/** Promises 23 to 28. */
final class DebtsTest {
    private static final int NONE = WalkingTown.NONE;
    private static final int BAD = WalkingTown.BAD;
    private static final int NOT = WalkingTown.NOT;
    private static final int FULL = WalkingTown.FULL;
    private static final long BAD_LONG = Long.MIN_VALUE + 2;

    private final Check check = new Check("DebtsTest");

    public static void main(String[] args) {
        DebtsTest test = new DebtsTest();
        test.debt();
        test.owesAndLost();
        test.church();
        test.likely();
        test.likelyByCounting();
        test.stone();
        test.stoneByTrying();
        test.check.end();
    }

    private void debt() {
        WalkingTown x = new WalkingTown();
        check.due("debt(-1, 0, 1)", x.debt(-1, 0, 1), BAD);
        check.due("debt(4, 0, 1)", x.debt(4, 0, 1), BAD);
        check.due("debt(0, -1, 1)", x.debt(0, -1, 1), BAD);
        check.due("debt(0, 100, 1)", x.debt(0, 100, 1), BAD);
        check.due("debt(0, 0, 0)", x.debt(0, 0, 0), BAD);
        check.due("debt(0, 0, 100)", x.debt(0, 0, 100), BAD);
        for (int n = 1; n <= 20; n++) {
            check.due("debt number " + n, x.debt(n % 4, 99 * (n % 2), n == 1 ? 1 : 99), n);
        }
        check.due("a debt more", x.debt(0, 0, 1), FULL);
        check.due("a debt more, BAD first", x.debt(0, 0, 0), BAD);
        check.due("count(6)", x.count(6), 20);
    }

    private void owesAndLost() {
        WalkingTown x = Check.townOf("s000;t101");
        x.debt(0, 0, 5);
        x.debt(0, 0, 7);
        x.debt(1, 1, 11);
        x.debt(0, 1, 99);
        x.debt(1, 0, 20);
        Check.winds(x, 0, 1, 1);
        check.due("owes(0, 0)", x.owes(0, 0), 12);
        check.due("owes(1, 0)", x.owes(1, 0), 11);
        check.due("lost(0)", x.lost(0), 0);
        check.due("owes(0, 1)", x.owes(0, 1), 99);
        check.due("owes(1, 1)", x.owes(1, 1), 11);
        check.due("lost(1)", x.lost(1), 32);
        check.due("owes(0, 2)", x.owes(0, 2), 0);
        check.due("owes(1, 2)", x.owes(1, 2), 0);
        check.due("lost(2)", x.lost(2), 142);
        check.due("lost(51)", x.lost(51), 142);
        check.due("owes(2, 0)", x.owes(2, 0), BAD);
        check.due("owes(-1, 0)", x.owes(-1, 0), BAD);
        check.due("owes(0, 52)", x.owes(0, 52), BAD);
        check.due("owes(0, -1)", x.owes(0, -1), BAD);
        check.due("lost(-1)", x.lost(-1), BAD);
        check.due("lost(52)", x.lost(52), BAD);
        x.set(0, 99);
        check.due("owes(0, 1) beyond all", x.owes(0, 1), NOT);
        check.due("owes(9, 1), BAD first", x.owes(9, 1), BAD);
        check.due("lost(1) is told all the same", x.lost(1), 142);
    }

    private void church() {
        for (int c = 1; c <= 999; c += 7) {
            for (int hands = 0; hands <= 999; hands += 9) {
                WalkingTown x = new WalkingTown();
                int[] weeks = {0, 3, 7, 8, 9, 51};
                for (int week : weeks) {
                    int few = NONE;
                    for (int n = 9; n >= 1; n--) {
                        int part = 0;
                        while (part * n < c) {
                            part++;
                        }
                        few = part + n <= hands && n <= week + 1 ? n : few;
                    }
                    check.due("church(" + c + ", " + hands + ", " + week + ")", x.church(c, hands, week), few);
                }
            }
        }
        WalkingTown x = new WalkingTown();
        check.due("church(0, 1, 1)", x.church(0, 1, 1), BAD);
        check.due("church(1000, 1, 1)", x.church(1000, 1, 1), BAD);
        check.due("church(1, -1, 1)", x.church(1, -1, 1), BAD);
        check.due("church(1, 1000, 1)", x.church(1, 1000, 1), BAD);
        check.due("church(1, 1, -1)", x.church(1, 1, -1), BAD);
        check.due("church(1, 1, 52)", x.church(1, 1, 52), BAD);
        check.due("church(998, 999, 0)", x.church(998, 999, 0), 1);
        check.due("church(999, 0, 51)", x.church(999, 0, 51), NONE);
    }

    private void likely() {
        WalkingTown x = new WalkingTown();
        check.due("likely(-1, 0, 0, 0)", x.likely(-1, 0, 0, 0), BAD_LONG);
        check.due("likely(10, 0, 0, 0)", x.likely(10, 0, 0, 0), BAD_LONG);
        check.due("likely(0, -1, 0, 0)", x.likely(0, -1, 0, 0), BAD_LONG);
        check.due("likely(0, 100, 0, 0)", x.likely(0, 100, 0, 0), BAD_LONG);
        check.due("likely(0, 0, -1, 0)", x.likely(0, 0, -1, 0), BAD_LONG);
        check.due("likely(0, 0, 10, 0)", x.likely(0, 0, 10, 0), BAD_LONG);
        check.due("likely(0, 0, 0, -1)", x.likely(0, 0, 0, -1), BAD_LONG);
        check.due("likely(0, 0, 0, 2)", x.likely(0, 0, 0, 2), BAD_LONG);
        check.due("likely(9, 80, 9, 0)", x.likely(9, 80, 9, 0), 1);
        check.due("likely(9, 80, 9, 1)", x.likely(9, 80, 9, 1), 1000000000L);
        check.due("likely(9, 81, 9, 0)", x.likely(9, 81, 9, 0), 0);
        check.due("likely(9, 81, 9, 1)", x.likely(9, 81, 9, 1), 1);
        x.set(0, 99);
        check.due("likely(9, 98, 9, 0), surely", x.likely(9, 98, 9, 0), 1);
        check.due("likely(9, 98, 9, 1)", x.likely(9, 98, 9, 1), 1);
        check.due("likely(9, 99, 9, 0)", x.likely(9, 99, 9, 0), 999999999L);
    }

    private static long waysOver(int k, int left, int foot, int row) {
        if (left == 0) {
            return foot > row ? 1 : 0;
        }
        long sum = 0;
        for (int wind = 0; wind <= k; wind++) {
            sum += waysOver(k, left - 1, foot + wind, row);
        }
        return sum;
    }

    private void likelyByCounting() {
        for (int begin = 0; begin < 8; begin += 3) {
            for (int k = 0; k <= 9; k++) {
                WalkingTown x = new WalkingTown();
                x.set(0, begin);
                for (int n = 0; n <= 3; n++) {
                    for (int row = 0; row < 40; row++) {
                        long above = waysOver(k, n, begin, row);
                        long below = Math.round(Math.pow(k + 1, n));
                        for (long d = below; d > 1; d--) {
                            if (above % d == 0 && below % d == 0) {
                                above /= d;
                                below /= d;
                            }
                        }
                        String call = "likely(" + k + ", " + row + ", " + n + ") from " + begin;
                        check.due(call + " above", x.likely(k, row, n, 0), above);
                        check.due(call + " below", x.likely(k, row, n, 1), below);
                    }
                }
            }
        }
    }

    private void stone() {
        WalkingTown x = new WalkingTown();
        check.due("stone(-1, 0, 0, 1, 0)", x.stone(-1, 0, 0, 1, 0), BAD);
        check.due("stone(100, 0, 0, 1, 0)", x.stone(100, 0, 0, 1, 0), BAD);
        check.due("stone(0, -1, 0, 1, 0)", x.stone(0, -1, 0, 1, 0), BAD);
        check.due("stone(0, 52, 0, 1, 0)", x.stone(0, 52, 0, 1, 0), BAD);
        check.due("stone(0, 0, -1, 1, 0)", x.stone(0, 0, -1, 1, 0), BAD);
        check.due("stone(0, 0, 0, 10, 0)", x.stone(0, 0, 0, 10, 0), BAD);
        check.due("stone(0, 0, 10, 10, 0)", x.stone(0, 0, 10, 10, 0), BAD);
        check.due("stone(0, 0, 2, 1, 0)", x.stone(0, 0, 2, 1, 0), BAD);
        check.due("stone(0, 0, 0, 1, 2)", x.stone(0, 0, 0, 1, 2), BAD);
        check.due("stone(0, 0, 0, 1, -1)", x.stone(0, 0, 0, 1, -1), BAD);
        check.due("stone(0, 0, 0, 9, 0) with no sand", x.stone(0, 0, 0, 9, 0), NONE);
        check.due("stone(0, 0, 0, 9, 1) with no sand", x.stone(0, 0, 0, 9, 1), NONE);
        x.set(0, 99);
        for (int week = 0; week < 52; week++) {
            x.wind(week, 9);
        }
        check.due("stone(0, 51, 1, 1, 1), the longest ago", x.stone(0, 51, 1, 1, 1), 566);
        check.due("stone(0, 51, 1, 1, 0)", x.stone(0, 51, 1, 1, 0), 566);
        check.due("stone(0, 51, 0, 0, 1)", x.stone(0, 51, 0, 0, 1), NONE);
        check.due("stone(0, 51, 0, 1, 1)", x.stone(0, 51, 0, 1, 1), 999);
        check.due("stone(99, 51, 9, 9, 0), the last row", x.stone(99, 51, 9, 9, 0), 51);
        check.due("stone(99, 0, 0, 9, 1), the last row", x.stone(99, 0, 0, 9, 1), 999);
    }

    /** Whether winds of a to b can bring m weeks' sand that leaves the stone bare ahead of the first of them. */
    private static boolean mayBe(int depth, int a, int b, int m) {
        for (int since = m * a; since <= m * b; since++) {
            for (int wind = a; wind <= b; wind++) {
                if (since < depth && since + wind >= depth) {
                    return true;
                }
            }
        }
        return false;
    }

    private void stoneByTrying() {
        for (int row = 0; row <= 31; row++) {
            WalkingTown x = new WalkingTown();
            x.set(0, 30);
            for (int a = 0; a <= 9; a++) {
                for (int b = a; b <= 9; b++) {
                    int first = NONE;
                    int last = NONE;
                    for (int m = 0; m < 40; m++) {
                        if (mayBe(30 - row, a, b, m) && row < 30) {
                            first = first == NONE ? m : first;
                            last = m;
                        }
                    }
                    last = last == 39 ? 999 : last;
                    String call = "stone(" + row + ", 0, " + a + ", " + b;
                    check.due(call + ", 0)", x.stone(row, 0, a, b, 0), first);
                    check.due(call + ", 1)", x.stone(row, 0, a, b, 1), last);
                }
            }
        }
    }
}
