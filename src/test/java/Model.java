import java.math.BigInteger;
import java.util.ArrayList;
import java.util.List;

/**
 * The document once more, word by word and slowly: one step at a time, a walk for each reading,
 * beliefs without a bound. It checks no arguments, and expects calls that throw nothing.
 */
final class Model {
    private static final BigInteger GREATEST = BigInteger.valueOf(1099511627776L);
    private static final int[] NEXT_X = {1, 0, -1, 0};
    private static final int[] NEXT_Y = {0, 1, 0, -1};

    private final boolean[][] wall = new boolean[8][8];
    private int x = 1;
    private List<Integer> samples = new ArrayList<>();
    private BigInteger[] beliefs = new BigInteger[64];
    private int readings;
    private int slow;
    private int fast;
    private int doubt;

    boolean isWall(int cell) {
        return wall[cell % 8][cell / 8];
    }

    void wall(int cell, boolean is) {
        wall[cell % 8][cell / 8] = is;
    }

    List<Integer> freeCells() {
        List<Integer> free = new ArrayList<>();
        for (int cell = 0; cell < 64; cell++) {
            if (!isWall(cell)) {
                free.add(cell);
            }
        }
        return free;
    }

    int setDrawn(int to) {
        int before = x;
        x = to;
        return before;
    }

    private int drawn() {
        x = (75 * x + 74) % 65537;
        return x;
    }

    private int drawnCell() {
        List<Integer> free = freeCells();
        return free.get(drawn() % free.size());
    }

    private int step(int cell, int direction) {
        int toX = cell % 8 + NEXT_X[direction];
        int toY = cell / 8 + NEXT_Y[direction];
        boolean leads = toX >= 0 && toX <= 7 && toY >= 0 && toY <= 7 && !wall[toX][toY];
        return leads ? 8 * toY + toX : cell;
    }

    int toRead(int cell, int direction) {
        if (isWall(cell)) {
            return -1;
        }
        int steps = 0;
        for (int at = cell; step(at, direction) != at; at = step(at, direction)) {
            steps++;
        }
        return steps;
    }

    private int weight(int cell, int direction, int reading) {
        if (isWall(cell)) {
            return 0;
        }
        int due = toRead(cell, direction);
        if (reading == due) {
            return 8;
        }
        if (reading == due + 1 || reading == due - 1) {
            return 3;
        }
        return reading == due + 2 || reading == due - 2 ? 1 : 0;
    }

    void spread(int many) {
        samples = new ArrayList<>();
        for (int i = 0; i < many; i++) {
            samples.add(drawnCell());
        }
        beginBeliefs();
        readings = 0;
        slow = 0;
        fast = 0;
        doubt = 0;
    }

    private void beginBeliefs() {
        for (int cell = 0; cell < 64; cell++) {
            beliefs[cell] = isWall(cell) ? BigInteger.ZERO : BigInteger.ONE;
        }
    }

    void drive(int direction) {
        for (int i = 0; i < samples.size(); i++) {
            int cell = samples.get(i);
            int remainder = drawn() % 16;
            int one = step(cell, direction);
            int two = step(one, direction);
            samples.set(i, remainder < 12 ? one : remainder < 15 ? cell : two);
        }
        BigInteger[] made = new BigInteger[64];
        for (int to = 0; to < 64; to++) {
            made[to] = beliefs[to].multiply(BigInteger.valueOf(3));
            for (int from = 0; from < 64; from++) {
                int one = step(from, direction);
                if (one == to) {
                    made[to] = made[to].add(beliefs[from].multiply(BigInteger.valueOf(12)));
                }
                if (step(one, direction) == to) {
                    made[to] = made[to].add(beliefs[from]);
                }
            }
        }
        beliefs = made;
        halve();
    }

    int read(int direction, int reading) {
        int sum = 0;
        for (int cell : samples) {
            sum += weight(cell, direction, reading);
        }
        int fit = Math.floorDiv(32 * sum, samples.size());
        if (readings == 0) {
            slow = fit;
            fast = fit;
        } else {
            slow += towardsZero(fit - slow, 8);
            fast += towardsZero(fit - fast, 2);
        }
        readings++;
        doubt = slow == 0 ? 256 : Math.max(0, 256 - Math.floorDiv(256 * fast, slow));
        samples = drawnAnew(sum, direction, reading);
        boolean areAllNone = true;
        for (int cell = 0; cell < 64; cell++) {
            beliefs[cell] = beliefs[cell].multiply(BigInteger.valueOf(weight(cell, direction, reading)));
            areAllNone = areAllNone && beliefs[cell].signum() == 0;
        }
        if (areAllNone) {
            beginBeliefs();
        }
        halve();
        return sum;
    }

    private static int towardsZero(int number, int by) {
        return number < 0 ? -Math.floorDiv(-number, by) : Math.floorDiv(number, by);
    }

    private List<Integer> drawnAnew(int sum, int direction, int reading) {
        List<Integer> fitting = new ArrayList<>();
        for (int cell : samples) {
            if (weight(cell, direction, reading) > 0 && !fitting.contains(cell)) {
                fitting.add(cell);
            }
        }
        int many = Math.min(64, 4 * fitting.size() + 8);
        int r = 0;
        if (sum > 0) {
            r = drawn() % sum;
        }
        List<Integer> made = new ArrayList<>();
        for (int k = 0; k < many; k++) {
            int drawn = drawn();
            if (sum == 0 || drawn % 256 < doubt) {
                made.add(drawnCell());
            } else {
                int mark = (r + k * sum) / many;
                int upTo = 0;
                int place = -1;
                while (upTo <= mark) {
                    place++;
                    upTo += weight(samples.get(place), direction, reading);
                }
                made.add(samples.get(place));
            }
        }
        return made;
    }

    private void halve() {
        while (beliefs[byBeliefs().get(0)].compareTo(GREATEST) > 0) {
            for (int cell = 0; cell < 64; cell++) {
                beliefs[cell] = beliefs[cell].shiftRight(1);
            }
        }
    }

    private List<Integer> byBeliefs() {
        List<Integer> cells = new ArrayList<>();
        for (int cell = 0; cell < 64; cell++) {
            cells.add(cell);
        }
        cells.sort((a, b) -> beliefs[b].compareTo(beliefs[a]));
        return cells;
    }

    int samples() {
        return samples.size();
    }

    int sample(int place) {
        return samples.get(place);
    }

    long count(int cell) {
        return samples.stream().filter(sample -> sample == cell).count();
    }

    long belief(int cell) {
        return beliefs[cell].longValueExact();
    }

    private long of(int cell, boolean bySamples) {
        return bySamples ? count(cell) : belief(cell);
    }

    int mode(boolean bySamples) {
        int mode = 0;
        for (int cell = 0; cell < 64; cell++) {
            mode = of(cell, bySamples) > of(mode, bySamples) ? cell : mode;
        }
        return mode;
    }

    int mean(boolean bySamples, boolean isY) {
        BigInteger sum = BigInteger.ZERO;
        BigInteger all = BigInteger.ZERO;
        for (int cell = 0; cell < 64; cell++) {
            BigInteger one = BigInteger.valueOf(of(cell, bySamples));
            sum = sum.add(one.multiply(BigInteger.valueOf(isY ? cell / 8 : cell % 8)));
            all = all.add(one);
        }
        return sum.multiply(BigInteger.valueOf(100)).divide(all).intValueExact();
    }

    int share(int fromX, int fromY, int toX, int toY, boolean bySamples) {
        BigInteger sum = BigInteger.ZERO;
        BigInteger all = BigInteger.ZERO;
        for (int cell = 0; cell < 64; cell++) {
            BigInteger one = BigInteger.valueOf(of(cell, bySamples));
            boolean isWithin = cell % 8 >= fromX && cell % 8 <= toX && cell / 8 >= fromY && cell / 8 <= toY;
            sum = isWithin ? sum.add(one) : sum;
            all = all.add(one);
        }
        return sum.multiply(BigInteger.valueOf(1000)).divide(all).intValueExact();
    }

    int best(int place) {
        if (place >= 64 || belief(byBeliefs().get(place)) == 0) {
            return -1;
        }
        return byBeliefs().get(place);
    }

    int doubt() {
        return doubt;
    }
}
