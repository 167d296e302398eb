import java.util.ArrayList;
import java.util.Arrays;
import java.util.List;
import java.util.regex.Matcher;
import java.util.regex.Pattern;

/** The document read once more, as slowly and plainly as can be, to set the class beside. */
final class Model {
    static final int NONE = -1;
    static final int BAD = -2;
    static final int NOT = -3;

    private static final Pattern TOWN = Pattern.compile("[strc][0-3][0-9][0-9](;[strc][0-3][0-9][0-9])*");
    private static final Pattern MOVES = Pattern.compile("[0-9][0-9][0-9](;[0-9][0-9][0-9])*");

    String townText = "";
    String movesText = "";
    int begin = 0;
    int hands = 9;
    final int[] winds = new int[52];
    final List<int[]> pairs = new ArrayList<>();
    final List<int[]> wells = new ArrayList<>();
    final List<int[]> debts = new ArrayList<>();

    private static int grammarFault(Pattern grammar, String text) {
        for (int end = 1; end <= text.length(); end++) {
            Matcher matcher = grammar.matcher(text.substring(0, end));
            if (!matcher.matches() && !matcher.hitEnd()) {
                return end - 1;
            }
        }
        boolean isWell = text.isEmpty() || grammar.matcher(text).matches();
        return isWell ? Integer.MAX_VALUE : text.length();
    }

    private static int told(int place) {
        return place == Integer.MAX_VALUE ? NONE : place;
    }

    int townFault() {
        int first = grammarFault(TOWN, townText);
        List<String> plots = new ArrayList<>();
        for (int at = 0; at + 4 <= Math.min(first, townText.length()); at += 5) {
            String plot = townText.substring(at + 1, at + 4);
            first = Math.min(first, plots.contains(plot) ? at + 2 : Integer.MAX_VALUE);
            plots.add(plot);
        }
        return told(townText.length() > 50 ? Math.min(first, 50) : first);
    }

    int movesFault() {
        int first = grammarFault(MOVES, movesText);
        int length = Math.min(first, movesText.length());
        int ahead = 0;
        for (int at = 0; at + 2 <= length; at += 4) {
            int week = Integer.parseInt(movesText.substring(at, at + 2));
            if (week > 51 || week < ahead) {
                return at;
            }
            if (at + 3 <= length && movesText.charAt(at + 2) - '0' >= houses().size()) {
                return at + 2;
            }
            ahead = week;
        }
        return told(first);
    }

    /** Of each house: kind, column, row. */
    List<int[]> houses() {
        List<int[]> houses = new ArrayList<>();
        if (townFault() == NONE && !townText.isEmpty()) {
            for (String part : townText.split(";")) {
                int row = Integer.parseInt(part.substring(2));
                houses.add(new int[] {"strc".indexOf(part.charAt(0)), part.charAt(1) - '0', row, 0});
            }
        }
        return houses;
    }

    List<int[]> moves() {
        List<int[]> moves = new ArrayList<>();
        if (movesFault() == NONE && !movesText.isEmpty()) {
            for (String part : movesText.split(";")) {
                moves.add(new int[] {Integer.parseInt(part.substring(0, 2)), part.charAt(2) - '0'});
            }
        }
        return moves;
    }

    int foot(int week) {
        return begin + Arrays.stream(winds, 0, week + 1).sum();
    }

    static int takes(int kind, int k) {
        return kind == 0 ? 4 : kind == 1 ? 1 : kind == 2 ? Math.max(1, 2 - k) : 3 + k;
    }

    /** Moves one of the houses, each with how often it was moved behind its row: its hands; NOT. */
    private static int move(List<int[]> houses, int[] house) {
        int front = houses.stream().filter(h -> h[1] == house[1]).mapToInt(h -> h[2]).max().orElse(0) + 1;
        if (front > 99) {
            return NOT;
        }
        house[2] = front;
        return takes(house[0], house[3]++);
    }

    private static int[] next(List<int[]> houses) {
        int[] next = null;
        for (int[] house : houses) {
            next = next == null || house[2] < next[2] ? house : next;
        }
        return next;
    }

    private static boolean isCovered(List<int[]> houses, int foot) {
        return houses.stream().anyMatch(h -> h[2] < foot);
    }

    List<int[]> behind(int moves) {
        List<int[]> houses = houses();
        for (int m = 0; m < moves && !houses.isEmpty(); m++) {
            move(houses, next(houses));
        }
        return houses;
    }

    int queueNext(int moves) {
        List<int[]> houses = behind(moves);
        return houses.indexOf(next(houses));
    }

    int[] judged() {
        List<int[]> houses = houses();
        for (int week = 0; week < 52; week++) {
            int taken = 0;
            boolean isNot = false;
            for (int[] move : moves()) {
                if (move[0] == week) {
                    int takes = move(houses, houses.get(move[1]));
                    isNot |= takes == NOT;
                    taken += Math.max(0, takes);
                }
            }
            int why = isNot ? 3 : taken > hands ? 2 : isCovered(houses, foot(week)) ? 1 : 0;
            if (why != 0) {
                return new int[] {week, why};
            }
        }
        return new int[] {NONE, 0};
    }

    int ends(int house) {
        List<int[]> houses = houses();
        for (int[] move : moves()) {
            move(houses, houses.get(move[1]));
        }
        return houses.get(house)[2];
    }

    int needs(int week) {
        List<int[]> houses = houses();
        for (int made = 0; made <= 500; made++) {
            if (!isCovered(houses, foot(week))) {
                return made;
            }
            move(houses, next(houses));
        }
        return NOT;
    }

    /** The week of each move with so many hands a week; null, where that is too few. */
    private int[] weeksOfMoves(int week, int few) {
        int all = needs(week);
        int[] weeks = new int[all];
        List<int[]> houses = houses();
        int made = 0;
        for (int w = 0; w <= week; w++) {
            int left = few;
            while (made < all) {
                int[] next = next(houses);
                int takes = takes(next[0], next[3]);
                if (takes > left) {
                    break;
                }
                left -= takes;
                move(houses, next);
                weeks[made++] = w;
            }
            if (made < needs(w)) {
                return null;
            }
        }
        return weeks;
    }

    int fewest(int week) {
        if (needs(week) == NOT) {
            return NOT;
        }
        int few = 0;
        while (weeksOfMoves(week, few) == null) {
            few++;
        }
        return few;
    }

    int turn(int week, int k) {
        int few = fewest(week);
        if (few == NOT) {
            return NOT;
        }
        int[] weeks = weeksOfMoves(week, few);
        return k < weeks.length ? weeks[k] : NONE;
    }

    int broken(int moves) {
        List<int[]> houses = behind(moves);
        int sum = 0;
        for (int[] pair : pairs) {
            if (pair[0] < houses.size() && pair[1] < houses.size()) {
                int[] a = houses.get(pair[0]);
                int[] b = houses.get(pair[1]);
                boolean isInOneColumn = a[1] == b[1] && (a[2] == b[2] + 1 || b[2] == a[2] + 1);
                boolean isInOneRow = a[2] == b[2] && (a[1] == b[1] + 1 || b[1] == a[1] + 1);
                sum += isInOneColumn || isInOneRow ? 0 : 1;
            }
        }
        return sum;
    }

    int leastBroken(int moves) {
        int best = moves;
        for (int m = moves; m >= 0; m--) {
            best = broken(m) <= broken(best) ? m : best;
        }
        return best;
    }

    int met(int week) {
        int needs = needs(week);
        if (needs == NOT) {
            return NOT;
        }
        int met = 0;
        List<int[]> houses = behind(needs);
        for (int[] well : wells) {
            met += well[1] >= foot(week) && houses.stream().anyMatch(h -> h[2] >= well[1]) ? 1 : 0;
        }
        return met;
    }

    int dry(int week) {
        StringBuilder weeks = new StringBuilder();
        for (int w = 0; w <= week; w++) {
            int met = met(w);
            if (met == NOT) {
                return NOT;
            }
            weeks.append(met == 0 ? '.' : '|');
        }
        return Arrays.stream(weeks.toString().split("\\|")).mapToInt(String::length).max().orElse(0);
    }

    int sold(int a, int b, int week) {
        String[] parts = townText.split(";");
        String plotOfA = parts[a].substring(1);
        parts[a] = parts[a].charAt(0) + parts[b].substring(1);
        parts[b] = parts[b].charAt(0) + plotOfA;
        Model other = new Model();
        other.townText = String.join(";", parts);
        other.begin = begin;
        System.arraycopy(winds, 0, other.winds, 0, 52);
        int now = fewest(week);
        int then = other.fewest(week);
        return now == NOT || then == NOT ? -10003 : now - then;
    }

    int owes(int house, int week) {
        int needs = needs(week);
        if (needs == NOT) {
            return NOT;
        }
        int[] there = behind(needs).get(house);
        return debts.stream().filter(d -> d[0] == there[1] && d[1] == there[2] && d[1] >= foot(week))
                .mapToInt(d -> d[2]).sum();
    }

    int lost(int week) {
        return debts.stream().filter(d -> d[1] < foot(week)).mapToInt(d -> d[2]).sum();
    }

    private long answer = 0;

    private void tell(long... values) {
        for (long value : values) {
            answer = 31 * answer + value;
        }
    }

    long digest() {
        answer = 17;
        int size = houses().size();
        tell(size, townText.length(), movesText.length(), moves().size());
        tell(pairs.size(), wells.size(), debts.size(), hands);
        tell(townFault(), movesFault());
        for (int house = 0; house < size; house++) {
            int[] h = houses().get(house);
            tell(h[0], h[1], h[2], ends(house), behind(9).get(house)[2], owes(house, 10));
        }
        tell(judged()[0], judged()[1]);
        for (int week : new int[] {0, 10, 20}) {
            tell(foot(week), needs(week), fewest(week), met(week), dry(week), lost(week));
        }
        tell(turn(20, 0), turn(20, 5), queueNext(9), broken(12), leastBroken(12));
        if (size >= 2) {
            tell(sold(0, 1, 20));
        }
        return answer;
    }
}
