import java.lang.reflect.Array;
import java.util.Arrays;
import java.util.List;
import java.util.function.LongSupplier;

/**
 * Promises 3 and 29 to 35, by runs set beside rows of Java's own: the machine itself finds there what the document
 * calls FINDINGS (a null, an index, a cast, a store, a size).
 */
final class SheetsModelTest {
    private static final int RUNS = 300;
    private static final int STEPS = 150;
    private static final int BAD = -2;
    private static final String TOWN = "s000;t003;r150;c297";

    private final Check check = new Check("SheetsModelTest");
    private final Object[] rows = new Object[4];
    private final int[] winds = new int[52];
    private final Model model = new Model();
    private long seed = 2026111808;
    private int finding = 0;
    private boolean isRefused = false;
    private WalkingTown x = new WalkingTown();

    public static void main(String[] args) {
        SheetsModelTest test = new SheetsModelTest();
        test.model.townText = TOWN;
        for (int run = 0; run < RUNS; run++) {
            test.run("run " + run);
        }
        test.check.end();
    }

    private int upTo(int most) {
        seed = seed * 6364136223846793005L + 1442695040888963407L;
        return (int) ((seed >>> 33) % (most + 1));
    }

    /** Mostly 0 to most, now and then one below or above it, or the farthest. */
    private int near(int most) {
        switch (upTo(40)) {
            case 0: return -1;
            case 1: return most + 1;
            case 2: return upTo(1) == 0 ? Integer.MIN_VALUE : Integer.MAX_VALUE;
            default: return upTo(most);
        }
    }

    private void run(String name) {
        x = Check.townOf(TOWN);
        Arrays.fill(rows, null);
        Arrays.fill(winds, 0);
        finding = 0;
        for (int step = 0; step < STEPS; step++) {
            step(name + " step " + step + ": ");
            check.due(name + " step " + step + ": count(8)", x.count(8), finding);
        }
        int sum = 0;
        for (int week = 0; week < 52; week++) {
            sum += winds[week];
            check.due(name + ": foot(" + week + ")", x.foot(week), sum);
        }
        for (int s = 0; s < 4; s++) {
            for (int i = 0; rows[s] != null && i < Math.min(20, Array.getLength(rows[s])); i++) {
                check.due(name + ": item " + i + " of " + s, x.get(s, formOf(rows[s]), i), Array.getInt(rows[s], i));
            }
        }
    }

    private static int formOf(Object row) {
        return row instanceof byte[] ? 0 : row instanceof short[] ? 1 : 2;
    }

    private void step(String where) {
        int s = near(3);
        int form = upTo(5) > 0 && s >= 0 && s < 4 && rows[s] != null ? formOf(rows[s]) : near(2);
        int size = upTo(9) == 0 ? near(60) : near(6);
        int v = upTo(2) == 0 ? upTo(Integer.MAX_VALUE - 1) - (1 << 30) : near(9);
        int t = near(3);
        int moves = near(40);
        switch (upTo(7)) {
            case 0:
                check.due(where + "sheet(" + s + ", " + form + ", " + size + ")", x.sheet(s, form, size),
                        told(s, form, () -> sheet(s, form, size)));
                break;
            case 1:
                if (upTo(3) == 0) {
                    check.due(where + "lose(" + s + ")", x.lose(s), told(s, 0, () -> lose(s)));
                }
                break;
            case 2:
                check.due(where + "read(" + s + ")", x.read(s), told(s, 0, () -> read(s)));
                break;
            case 3:
                check.due(where + "write(" + moves + ", " + s + ")", x.write(moves, s), told(s, 0, () -> write(moves, s)));
                break;
            case 4:
                long item = told(s, form, () -> get(s, form, size));
                check.due(where + "get(" + s + ", " + form + ", " + size + ")", x.get(s, form, size),
                        isRefused ? Integer.MIN_VALUE : item);
                break;
            case 5:
                int j = near(6);
                int n = near(4);
                check.due(where + "copy(" + s + ", " + size + ", " + t + ", " + j + ", " + n + ")",
                        x.copy(s, size, t, j, n), told(s, 0, () -> told(t, 0, () -> copy(s, size, t, j, n))));
                break;
            default:
                check.due(where + "put(" + s + ", " + form + ", " + size + ", " + v + ")", x.put(s, form, size, v),
                        told(s, form, () -> put(s, form, size, v)));
                break;
        }
    }

    /** BAD for no such SHEET or FORM; else what the act answers, or what the machine finds in it. */
    private long told(int s, int form, LongSupplier act) {
        isRefused = true;
        if (s < 0 || s > 3 || form < 0 || form > 2) {
            return BAD;
        }
        try {
            long answer = act.getAsLong();
            isRefused = false;
            return answer;
        } catch (NullPointerException e) {
            finding = 1;
        } catch (IndexOutOfBoundsException e) {
            finding = 2;
        } catch (ClassCastException e) {
            finding = 3;
        } catch (ArrayStoreException e) {
            finding = 4;
        } catch (NegativeArraySizeException e) {
            finding = 5;
        }
        return -10 - finding;
    }

    private long sheet(int s, int form, int n) {
        if (n > 60) {
            return BAD;
        }
        rows[s] = form == 0 ? new byte[n] : form == 1 ? new short[n] : new int[n];
        return n;
    }

    private long lose(int s) {
        int had = Array.getLength(rows[s]);
        rows[s] = null;
        return had;
    }

    private long put(int s, int form, int i, int v) {
        if (form == 0) {
            ((byte[]) rows[s])[i] = (byte) v;
        } else if (form == 1) {
            ((short[]) rows[s])[i] = (short) v;
        } else {
            ((int[]) rows[s])[i] = v;
        }
        return 1;
    }

    private long get(int s, int form, int i) {
        return form == 0 ? ((byte[]) rows[s])[i] : form == 1 ? ((short[]) rows[s])[i] : ((int[]) rows[s])[i];
    }

    private long copy(int s, int i, int t, int j, int n) {
        System.arraycopy(rows[s], i, rows[t], j, n);
        return 1;
    }

    private long read(int s) {
        int most = Math.min(52, Array.getLength(rows[s]));
        int week = 0;
        while (week < most && Array.getInt(rows[s], week) >= 0 && Array.getInt(rows[s], week) <= 9) {
            winds[week] = Array.getInt(rows[s], week);
            week++;
        }
        return week;
    }

    private long write(int moves, int s) {
        if (moves < 0 || moves > 40) {
            return BAD;
        }
        List<int[]> houses = model.behind(moves);
        int many = Math.min(houses.size(), Array.getLength(rows[s]));
        for (int house = 0; house < many; house++) {
            put(s, formOf(rows[s]), house, houses.get(house)[2]);
        }
        return many;
    }
}
