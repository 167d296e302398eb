import java.util.function.IntToLongFunction;

/** Counts the answers that are not as due and tells each of them. */
final class Check {
    private final String name;
    private int asked = 0;
    private int wrong = 0;

    Check(String name) {
        this.name = name;
    }

    void due(String call, long got, long want) {
        asked++;
        if (got != want) {
            wrong++;
            System.out.println(name + ": " + call + " answered " + got + ", due is " + want);
        }
    }

    /** A number that a call takes: the least and the most are taken, those next to them and the farthest are not. */
    void range(String call, int least, int most, long refusal, IntToLongFunction asked) {
        int[] taken = {least, most};
        int[] refused = {least - 1, most + 1, Integer.MIN_VALUE, Integer.MAX_VALUE};
        for (int v : taken) {
            due(call + " takes " + v + " and does not refuse it", asked.applyAsLong(v) == refusal ? 1 : 0, 0);
        }
        for (int v : refused) {
            due(call + " with " + v, asked.applyAsLong(v), refusal);
        }
    }

    /** Tells the sum and ends with exit code 1 if an answer was wrong. */
    void end() {
        System.out.println(name + ": " + asked + " answers, " + wrong + " not as due");
        if (wrong != 0 || asked == 0) {
            System.exit(1);
        }
    }

    static WalkingTown townOf(String text) {
        WalkingTown x = new WalkingTown();
        retype(x, 0, text);
        return x;
    }

    static void retype(WalkingTown x, int text, String bytes) {
        x.wipe(text);
        for (int i = 0; i < bytes.length(); i++) {
            x.type(text, bytes.charAt(i));
        }
    }

    static void winds(WalkingTown x, int... winds) {
        for (int week = 0; week < winds.length; week++) {
            x.wind(week, winds[week]);
        }
    }
}
