/**
 * A finder of position on a field with walls: samples that are driven by chance, weighed by
 * readings and drawn anew, and beside them whole-numbered beliefs of all cells.
 */
public final class Particleway {
    /** There is none. */
    public static final int NONE = -1;

    private static final int SIDE = 8;
    private static final int CELLS = 64;
    private static final int DIRECTIONS = 4;
    private static final int LEAST_SPREAD = 8;
    private static final int MOST_SAMPLES = 64;
    private static final int MOST_TOLD = 300;
    private static final int GREATEST_DRAWN = 65536;

    private final Field field;
    private final Chance chance;
    private final Samples samples;
    private final Beliefs beliefs;
    private final Beliefs beliefsAnew;
    private final int[] toldDirections;
    /** What was read, or NONE where it was driven. */
    private final int[] toldReadings;
    private int told;
    private boolean isSpread;

    /** Begins with a field without walls. */
    public Particleway() {
        field = new Field();
        chance = new Chance();
        samples = new Samples(field, chance);
        beliefs = new Beliefs(field);
        beliefsAnew = new Beliefs(field);
        toldDirections = new int[MOST_TOLD];
        toldReadings = new int[MOST_TOLD];
        told = 0;
        isSpread = false;
    }

    // ---- the field, chance

    /** Tells that a cell is a wall, or free; returns whether it was a wall. */
    public boolean wall(int x, int y, boolean is) throws IndexOutOfBoundsException, IllegalStateException {
        checkCell(x, y);
        int cell = numberOf(x, y);
        boolean was = !field.isFree(cell);
        boolean takesTheLast = is && !was && field.freeCells() <= 1;
        if (isSpread || takesTheLast) {
            throw new IllegalStateException();
        }
        field.build(cell, is);
        return was;
    }

    /** Sets the number from which it is drawn; returns the one before. */
    public int draw(int x) throws IllegalArgumentException {
        if (x < 1 || x > GREATEST_DRAWN) {
            throw new IllegalArgumentException();
        }
        return chance.change(x);
    }

    // ---- samples

    /** Spreads samples; all that was driven and read before is over. */
    public void spread(int many) throws IllegalArgumentException {
        if (many < LEAST_SPREAD || many > MOST_SAMPLES) {
            throw new IllegalArgumentException();
        }
        samples.begin(many);
        beliefs.begin();
        told = 0;
        isSpread = true;
    }

    /** Drives in a direction. */
    public void drive(int direction) throws IndexOutOfBoundsException, IllegalStateException {
        checkDirection(direction);
        checkMayTell();
        samples.move(direction);
        beliefs.push(direction);
        keep(direction, NONE);
    }

    /** Tells a reading; returns the sum of the samples' weights. */
    public int read(int direction, int reading)
            throws IndexOutOfBoundsException, IllegalArgumentException, IllegalStateException {
        checkDirection(direction);
        if (reading < 0 || reading >= SIDE) {
            throw new IllegalArgumentException();
        }
        checkMayTell();
        int sum = samples.weigh(direction, reading);
        beliefs.weigh(direction, reading);
        keep(direction, reading);
        return sum;
    }

    // ---- questions

    /** Returns what is to be read in a cell; NONE in a wall. */
    public int toRead(int x, int y, int direction) throws IndexOutOfBoundsException {
        checkCell(x, y);
        checkDirection(direction);
        return field.stepsAhead(numberOf(x, y), direction);
    }

    /** Returns how many samples there are. */
    public int samples() throws IllegalStateException {
        checkSpread();
        return samples.size();
    }

    /** Returns the number of the cell of a sample. */
    public int sample(int sample) throws IndexOutOfBoundsException {
        if (sample < 0 || sample >= samples.size()) {
            throw new IndexOutOfBoundsException();
        }
        return samples.cellOf(sample);
    }

    /** Returns how many samples are in a cell. */
    public int count(int x, int y) throws IndexOutOfBoundsException, IllegalStateException {
        checkCell(x, y);
        checkSpread();
        return (int) samples.chart().at(numberOf(x, y));
    }

    /** Returns the belief of a cell. */
    public long belief(int x, int y) throws IndexOutOfBoundsException, IllegalStateException {
        checkCell(x, y);
        checkSpread();
        return beliefs.chart().at(numberOf(x, y));
    }

    /** Returns the belief of a cell, made once more from all that was told. */
    public long beliefAnew(int x, int y) throws IndexOutOfBoundsException, IllegalStateException {
        checkCell(x, y);
        checkSpread();
        repeatAllTold();
        return beliefsAnew.chart().at(numberOf(x, y));
    }

    /** Returns the number of the cell with the most samples, or the greatest belief. */
    public int mode(boolean bySamples) throws IllegalStateException {
        checkSpread();
        return chartOf(bySamples).greatestCell();
    }

    /** Returns the mean of a coordinate in hundredths, rounded down. */
    public int mean(boolean bySamples, boolean isY) throws IllegalStateException {
        checkSpread();
        Chart chart = chartOf(bySamples);
        return (int) quotient(100 * chart.coordinateSum(isY), chart.sum());
    }

    /** Returns which share is in a region, in thousandths, rounded down. */
    public int share(int x, int y, int toX, int toY, boolean bySamples)
            throws IndexOutOfBoundsException, IllegalArgumentException, IllegalStateException {
        checkCell(x, y);
        if (toX < x || toX >= SIDE || toY < y || toY >= SIDE) {
            throw new IllegalArgumentException();
        }
        checkSpread();
        Chart chart = chartOf(bySamples);
        return (int) quotient(1000 * chart.sumOf(x, y, toX, toY), chart.sum());
    }

    /** Returns the number of the cell at a place by beliefs; NONE if there are not so many. */
    public int best(int place) throws IndexOutOfBoundsException, IllegalStateException {
        if (place < 0) {
            throw new IndexOutOfBoundsException();
        }
        checkSpread();
        return beliefs.chart().cellAtPlace(place);
    }

    /** Returns the doubt of the last reading; 0 without one since samples were spread. */
    public int doubt() throws IllegalStateException {
        checkSpread();
        return samples.lastDoubt();
    }

    // ---- what the calls share

    private static void checkCell(int x, int y) {
        if (!isInField(x, y)) {
            throw new IndexOutOfBoundsException();
        }
    }

    private static void checkDirection(int direction) {
        if (!isDirection(direction)) {
            throw new IndexOutOfBoundsException();
        }
    }

    private void checkSpread() {
        if (!isSpread) {
            throw new IllegalStateException();
        }
    }

    private void checkMayTell() {
        if (!isSpread || told >= MOST_TOLD) {
            throw new IllegalStateException();
        }
    }

    private void keep(int direction, int reading) {
        if (told >= 0 && told < MOST_TOLD) {
            toldDirections[told] = direction;
            toldReadings[told] = reading;
            told++;
        }
    }

    private void repeatAllTold() {
        beliefsAnew.begin();
        for (int i = 0; i < told && i < MOST_TOLD; i++) {
            if (toldReadings[i] == NONE) {
                beliefsAnew.fetch(toldDirections[i]);
            } else {
                beliefsAnew.weigh(toldDirections[i], toldReadings[i]);
            }
        }
    }

    private Chart chartOf(boolean bySamples) {
        return bySamples ? samples.chart() : beliefs.chart();
    }

    private static boolean isInField(int x, int y) {
        return x >= 0 && x < SIDE && y >= 0 && y < SIDE;
    }

    private static boolean isCell(int cell) {
        return cell >= 0 && cell < CELLS;
    }

    private static boolean isDirection(int direction) {
        return direction >= 0 && direction < DIRECTIONS;
    }

    private static int numberOf(int x, int y) {
        return SIDE * y + x;
    }

    /** The quotient of numbers not below 0, rounded down; 0 by 0, so that no division throws. */
    private static long quotient(long dividend, long divisor) {
        return divisor == 0 ? 0 : dividend / divisor;
    }

    /** The number x from which all is drawn. */
    private static final class Chance {
        private int x;

        Chance() {
            x = 1;
        }

        int change(int to) {
            int before = x;
            x = to;
            return before;
        }

        /** Draws, and returns the remainder of what is drawn. */
        int remainder(int by) {
            x = (75 * x + 74) % 65537;
            return by <= 0 ? 0 : x % by;
        }
    }

    /** The walls, and where steps lead among them. */
    private static final class Field {
        private static final int[] STEP_X = {1, 0, -1, 0};
        private static final int[] STEP_Y = {0, 1, 0, -1};

        private final boolean[] walls;
        /** Measured when walls change: all that is told is repeated by beliefAnew() time and again. */
        private final int[] ahead;
        private int free;

        Field() {
            walls = new boolean[CELLS];
            ahead = new int[DIRECTIONS * CELLS];
            measure();
        }

        boolean isFree(int cell) {
            return isCell(cell) && !walls[cell];
        }

        int freeCells() {
            return free;
        }

        void build(int cell, boolean isWall) {
            if (isCell(cell)) {
                walls[cell] = isWall;
                measure();
            }
        }

        int drawnCell(Chance chance) {
            int left = chance.remainder(free);
            for (int cell = 0; cell < CELLS; cell++) {
                if (!walls[cell]) {
                    if (left == 0) {
                        return cell;
                    }
                    left--;
                }
            }
            return 0;
        }

        /** What is to be read; NONE in a wall. */
        int stepsAhead(int cell, int direction) {
            return isCell(cell) && isDirection(direction) ? ahead[CELLS * direction + cell] : NONE;
        }

        /** Where so many steps lead from a free cell. */
        int led(int cell, int direction, int steps) {
            return shifted(cell, direction, Math.min(steps, stepsAhead(cell, direction)));
        }

        int weight(int cell, int direction, int reading) {
            switch (Math.abs(reading - stepsAhead(cell, direction))) {
                case 0:
                    return 8;
                case 1:
                    return 3;
                case 2:
                    return 1;
                default:
                    return 0;
            }
        }

        /** The cell so far on in a direction, whatever walls there are; NONE outside the field. */
        static int shifted(int cell, int direction, int steps) {
            if (!isCell(cell) || !isDirection(direction)) {
                return NONE;
            }
            int x = cell % SIDE + steps * STEP_X[direction];
            int y = cell / SIDE + steps * STEP_Y[direction];
            return isInField(x, y) ? numberOf(x, y) : NONE;
        }

        private void measure() {
            free = 0;
            for (int cell = 0; cell < CELLS; cell++) {
                if (!walls[cell]) {
                    free++;
                }
                for (int direction = 0; direction < DIRECTIONS; direction++) {
                    ahead[CELLS * direction + cell] = walls[cell] ? NONE : countedSteps(cell, direction);
                }
            }
        }

        private int countedSteps(int cell, int direction) {
            int steps = 0;
            while (steps < SIDE && isFree(shifted(cell, direction, steps + 1))) {
                steps++;
            }
            return steps;
        }
    }

    /** A number for each cell, none below 0. */
    private static final class Chart {
        private final long[] numbers;

        Chart() {
            numbers = new long[CELLS];
        }

        long at(int cell) {
            return isCell(cell) ? numbers[cell] : 0;
        }

        void put(int cell, long number) {
            if (isCell(cell)) {
                numbers[cell] = number;
            }
        }

        void add(int cell, long number) {
            if (isCell(cell)) {
                numbers[cell] += number;
            }
        }

        void clear() {
            for (int cell = 0; cell < CELLS; cell++) {
                numbers[cell] = 0;
            }
        }

        void halve() {
            for (int cell = 0; cell < CELLS; cell++) {
                numbers[cell] /= 2;
            }
        }

        void copy(Chart other) {
            System.arraycopy(other.numbers, 0, numbers, 0, CELLS);
        }

        long greatest() {
            long greatest = 0;
            for (int cell = 0; cell < CELLS; cell++) {
                greatest = Math.max(greatest, numbers[cell]);
            }
            return greatest;
        }

        /** Of alike ones the lowest. */
        int greatestCell() {
            long greatest = greatest();
            for (int cell = 0; cell < CELLS; cell++) {
                if (numbers[cell] == greatest) {
                    return cell;
                }
            }
            return NONE;
        }

        long sum() {
            return sumOf(0, 0, SIDE - 1, SIDE - 1);
        }

        long sumOf(int fromX, int fromY, int toX, int toY) {
            long sum = 0;
            for (int cell = 0; cell < CELLS; cell++) {
                int x = cell % SIDE;
                int y = cell / SIDE;
                if (x >= fromX && x <= toX && y >= fromY && y <= toY) {
                    sum += numbers[cell];
                }
            }
            return sum;
        }

        long coordinateSum(boolean isY) {
            long sum = 0;
            for (int cell = 0; cell < CELLS; cell++) {
                sum += numbers[cell] * (isY ? cell / SIDE : cell % SIDE);
            }
            return sum;
        }

        /** The cell at a place by falling numbers above 0, of alike ones the lowest first; NONE if there is none. */
        int cellAtPlace(int place) {
            for (int cell = 0; cell < CELLS; cell++) {
                if (numbers[cell] > 0 && placeOf(cell) == place) {
                    return cell;
                }
            }
            return NONE;
        }

        private int placeOf(int cell) {
            int place = 0;
            for (int other = 0; other < CELLS; other++) {
                boolean isAlikeButLower = numbers[other] == at(cell) && other < cell;
                if (numbers[other] > at(cell) || isAlikeButLower) {
                    place++;
                }
            }
            return place;
        }
    }

    /** The samples, and how well they have come to fit the readings. */
    private static final class Samples {
        private final Field field;
        private final Chance chance;
        private final int[] cells;
        private final int[] oldCells;
        private final int[] weights;
        private final Chart counts;
        private int many;
        private boolean isRead;
        private int slow;
        private int fast;
        private int doubt;

        Samples(Field field, Chance chance) {
            this.field = field;
            this.chance = chance;
            cells = new int[MOST_SAMPLES];
            oldCells = new int[MOST_SAMPLES];
            weights = new int[MOST_SAMPLES];
            counts = new Chart();
            many = 0;
        }

        int size() {
            return many;
        }

        int cellOf(int sample) {
            return sample >= 0 && sample < MOST_SAMPLES ? cells[sample] : NONE;
        }

        int lastDoubt() {
            return doubt;
        }

        /** Counts the samples of each cell. */
        Chart chart() {
            counts.clear();
            for (int i = 0; i < many && i < MOST_SAMPLES; i++) {
                counts.add(cells[i], 1);
            }
            return counts;
        }

        void begin(int howMany) {
            many = howMany;
            for (int i = 0; i < many && i < MOST_SAMPLES; i++) {
                cells[i] = field.drawnCell(chance);
            }
            isRead = false;
            slow = 0;
            fast = 0;
            doubt = 0;
        }

        void move(int direction) {
            for (int i = 0; i < many && i < MOST_SAMPLES; i++) {
                cells[i] = field.led(cells[i], direction, drawnSteps());
            }
        }

        private int drawnSteps() {
            int drawn = chance.remainder(16);
            if (drawn < 12) {
                return 1;
            }
            return drawn < 15 ? 0 : 2;
        }

        int weigh(int direction, int reading) {
            int sum = 0;
            for (int i = 0; i < many && i < MOST_SAMPLES; i++) {
                weights[i] = field.weight(cells[i], direction, reading);
                sum += weights[i];
            }
            compareFit((int) quotient(32 * sum, many));
            drawAnew(sum, manyAnew(direction, reading));
            return sum;
        }

        private void compareFit(int fit) {
            if (isRead) {
                // Division of int rounds towards 0, as both averages are to change.
                slow += (fit - slow) / 8;
                fast += (fit - fast) / 2;
            } else {
                slow = fit;
                fast = fit;
                isRead = true;
            }
            doubt = slow == 0 ? 256 : Math.max(0, 256 - 256 * fast / slow);
        }

        private int manyAnew(int direction, int reading) {
            Chart chart = chart();
            int fitting = 0;
            for (int cell = 0; cell < CELLS; cell++) {
                if (chart.at(cell) > 0 && field.weight(cell, direction, reading) > 0) {
                    fitting++;
                }
            }
            return Math.min(MOST_SAMPLES, 4 * fitting + 8);
        }

        private void drawAnew(int sum, int manyNew) {
            System.arraycopy(cells, 0, oldCells, 0, MOST_SAMPLES);
            int start = sum == 0 ? 0 : chance.remainder(sum);
            for (int k = 0; k < manyNew && k < MOST_SAMPLES; k++) {
                // It is drawn for each, also where nothing fits.
                boolean isDoubted = chance.remainder(256) < doubt;
                if (sum == 0 || isDoubted) {
                    cells[k] = field.drawnCell(chance);
                } else {
                    cells[k] = oldCellBeyond(quotient(start + k * sum, manyNew));
                }
            }
            many = manyNew;
        }

        /** The cell of the first old sample with which the sum of weights is above a mark. */
        private int oldCellBeyond(long mark) {
            int sum = 0;
            for (int i = 0; i < many && i < MOST_SAMPLES; i++) {
                sum += weights[i];
                if (sum > mark) {
                    return oldCells[i];
                }
            }
            return oldCells[0];
        }
    }

    /** A whole-numbered belief of each cell. */
    private static final class Beliefs {
        private static final long GREATEST = 1099511627776L;

        private final Field field;
        private final Chart now;
        private final Chart before;

        Beliefs(Field field) {
            this.field = field;
            now = new Chart();
            before = new Chart();
        }

        Chart chart() {
            return now;
        }

        void begin() {
            for (int cell = 0; cell < CELLS; cell++) {
                now.put(cell, field.isFree(cell) ? 1 : 0);
            }
        }

        /** Drives, each cell giving what goes from it. */
        void push(int direction) {
            before.copy(now);
            now.clear();
            for (int cell = 0; cell < CELLS; cell++) {
                if (field.isFree(cell)) {
                    now.add(cell, 3 * before.at(cell));
                    now.add(field.led(cell, direction, 1), 12 * before.at(cell));
                    now.add(field.led(cell, direction, 2), before.at(cell));
                }
            }
            halveGreat();
        }

        /** Drives, each cell fetching what comes to it. */
        void fetch(int direction) {
            before.copy(now);
            for (int cell = 0; cell < CELLS; cell++) {
                now.put(cell, fetched(cell, direction));
            }
            halveGreat();
        }

        private long fetched(int cell, int direction) {
            long sum = 3 * before.at(cell);
            for (int back = 0; back <= 2; back++) {
                int from = Field.shifted(cell, direction, -back);
                if (field.isFree(from)) {
                    sum += field.led(from, direction, 1) == cell ? 12 * before.at(from) : 0;
                    sum += field.led(from, direction, 2) == cell ? before.at(from) : 0;
                }
            }
            return sum;
        }

        void weigh(int direction, int reading) {
            for (int cell = 0; cell < CELLS; cell++) {
                now.put(cell, now.at(cell) * field.weight(cell, direction, reading));
            }
            if (now.greatest() == 0) {
                begin();
            }
            halveGreat();
        }

        private void halveGreat() {
            // A long has 64 bits, so that no more than 64 halvings can be due.
            for (int times = 0; times < 64 && now.greatest() > GREATEST; times++) {
                now.halve();
            }
        }
    }
}
