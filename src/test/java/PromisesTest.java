/** One method for each promise: ordinary inputs, edges and wrong inputs, with answers worked out by hand. */
public final class PromisesTest {
    private static final int MIN = Integer.MIN_VALUE;
    private static final int MAX = Integer.MAX_VALUE;
    private static final int[] OUTSIDE = {-1, 8, 64, MIN, MAX};

    private final Checks checks = new Checks();

    public static void main(String[] args) {
        PromisesTest test = new PromisesTest();
        test.aNewObject();
        test.wall();
        test.lastFreeCell();
        test.draw();
        test.spread();
        test.spreadAgain();
        test.drive();
        test.driveAmongWalls();
        test.limitOfTelling();
        test.read();
        test.drawnAnew();
        test.drawnAnywhere();
        test.toRead();
        test.samples();
        test.sample();
        test.count();
        test.belief();
        test.beliefsHalved();
        test.beliefsBegunAgain();
        test.beliefAnew();
        test.mode();
        test.mean();
        test.share();
        test.best();
        test.doubt();
        test.orderOfExceptions();
        test.checks.end();
    }

    private void dueSamples(String call, Particleway one, int... cells) {
        checks.due(call + ", samples()", one.samples(), cells.length);
        for (int i = 0; i < cells.length; i++) {
            checks.due(call + ", sample(" + i + ")", one.sample(i), cells[i]);
        }
    }

    // ---- the promises

    private void aNewObject() {
        checks.due("NONE", Particleway.NONE, -1);
        Particleway one = new Particleway();
        for (int cell = 0; cell < 64; cell++) {
            int x = cell % 8;
            int y = cell / 8;
            int[] due = {7 - x, 7 - y, x, y};
            for (int direction = 0; direction < 4; direction++) {
                checks.due("new: toRead " + cell + " " + direction, one.toRead(x, y, direction), due[direction]);
            }
            checks.due("new: wall", one.wall(x, y, false) ? 1 : 0, 0);
        }
        checks.due("new: draw", one.draw(7), 1);
    }

    private void wall() {
        Particleway one = new Particleway();
        checks.due("wall first", one.wall(3, 5, true) ? 1 : 0, 0);
        checks.due("wall again", one.wall(3, 5, true) ? 1 : 0, 1);
        checks.due("wall is that cell", one.toRead(3, 5, 0), Particleway.NONE);
        checks.due("wall is no other", one.toRead(5, 3, 0), 2);
        checks.due("wall freed", one.wall(3, 5, false) ? 1 : 0, 1);
        checks.due("wall freed again", one.wall(3, 5, false) ? 1 : 0, 0);
        checks.due("wall is free", one.toRead(3, 5, 0), 4);
        for (int out : OUTSIDE) {
            checks.dueThrow("wall x " + out, Checks.INDEX, () -> one.wall(out, 0, true));
            checks.dueThrow("wall y " + out, Checks.INDEX, () -> one.wall(0, out, true));
        }
        one.wall(7, 7, true);
        one.spread(8);
        checks.dueThrow("wall when spread", Checks.STATE, () -> one.wall(0, 0, true));
        checks.dueThrow("no wall when spread", Checks.STATE, () -> one.wall(7, 7, false));
        checks.dueThrow("same wall when spread", Checks.STATE, () -> one.wall(7, 7, true));
        checks.dueThrow("outside when spread", Checks.INDEX, () -> one.wall(0, 8, true));
        checks.due("no wall was built", one.toRead(0, 0, 0), 7);
        checks.due("no wall was freed", one.toRead(7, 7, 0), Particleway.NONE);
    }

    private void lastFreeCell() {
        Particleway one = Fields.row(6, 2, 2);
        checks.dueThrow("wall in the last", Checks.STATE, () -> one.wall(2, 6, true));
        checks.due("the last stays free", one.wall(2, 6, false) ? 1 : 0, 0);
        checks.due("a wall beside the last", one.wall(0, 0, true) ? 1 : 0, 1);
        checks.dueThrow("still the last", Checks.STATE, () -> one.wall(2, 6, true));
        checks.due("another free one", one.wall(7, 7, false) ? 1 : 0, 1);
        checks.due("so it was not the last", one.wall(2, 6, true) ? 1 : 0, 0);
        checks.dueThrow("now the other is", Checks.STATE, () -> one.wall(7, 7, true));
    }

    private void draw() {
        Particleway one = new Particleway();
        checks.due("draw first", one.draw(65536), 1);
        checks.due("draw greatest", one.draw(1), 65536);
        for (int out : new int[] {0, 65537, -1, MIN, MAX}) {
            checks.dueThrow("draw " + out, Checks.ARGUMENT, () -> one.draw(out));
        }
        checks.due("draw unchanged", one.draw(5), 1);
        one.spread(8);
        checks.due("draw after eight", one.draw(62850), Fields.after(5, 8));
        one.spread(8);
        checks.due("draw of 0", one.draw(1), 0);
        checks.dueThrow("draw when spread", Checks.ARGUMENT, () -> one.draw(0));
        one.drive(0);
        checks.due("draw for each driven", one.draw(1), Fields.after(1, 8));
    }

    private void spread() {
        Particleway one = new Particleway();
        for (int out : new int[] {7, 65, 0, -1, MIN, MAX}) {
            checks.dueThrow("spread " + out, Checks.ARGUMENT, () -> one.spread(out));
        }
        checks.dueThrow("spread nothing", Checks.STATE, () -> one.samples());
        checks.due("nothing drawn", one.draw(1), 1);
        one.spread(8);
        dueSamples("spread", one, 21, 49, 25, 28, 19, 51, 31, 1);
        Particleway corridor = Fields.row(2, 3, 5);
        corridor.spread(64);
        int x = 1;
        for (int i = 0; i < 64; i++) {
            x = Fields.next(x);
            checks.due("spread in a row " + i, corridor.sample(i), 19 + x % 3);
        }
        checks.due("spread many", corridor.samples(), 64);
    }

    private void spreadAgain() {
        Particleway one = Fields.spreadOut(Fields.pair(), 8);
        one.drive(0);
        one.read(0, 0);
        one.read(0, 5);
        checks.due("a doubt", one.doubt() > 0 ? 1 : 0, 1);
        checks.dueThrow("spread too many", Checks.ARGUMENT, () -> one.spread(65));
        checks.due("all stands", one.doubt() > 0 ? 1 : 0, 1);
        one.draw(1);
        one.spread(9);
        dueSamples("spread again", one, 1, 1, 1, 0, 1, 1, 1, 1, 0);
        checks.due("spread again: doubt", one.doubt(), 0);
        for (int x = 0; x < 3; x++) {
            checks.due("spread again: belief", one.belief(x, 0), x < 2 ? 1 : 0);
            checks.due("spread again: beliefAnew", one.beliefAnew(x, 0), x < 2 ? 1 : 0);
        }
        one.read(0, 7);
        checks.due("spread again: no average is kept", one.doubt(), 256);
        Particleway fits = Fields.single();
        int[] doubts = {0, 66, 24};
        for (int times = 0; times < 2; times++) {
            fits.spread(8);
            for (int i = 0; i < 3; i++) {
                fits.read(0, i % 2);
                checks.due("spread again: read as at first " + i, fits.doubt(), doubts[i]);
            }
        }
    }

    private void drive() {
        Particleway one = new Particleway();
        one.draw(1);
        one.spread(64);
        int[] before = new int[64];
        for (int i = 0; i < 64; i++) {
            before[i] = one.sample(i);
        }
        for (int direction = 0; direction < 4; direction++) {
            one.draw(777 + direction);
            one.drive(direction);
            int x = 777 + direction;
            for (int i = 0; i < 64; i++) {
                x = Fields.next(x);
                int steps = x % 16 < 12 ? 1 : x % 16 < 15 ? 0 : 2;
                before[i] = moved(before[i], direction, steps);
                checks.due("drive " + direction + ", sample " + i, one.sample(i), before[i]);
            }
            checks.due("drive draws once for each", one.draw(1), x);
        }
        for (int out : new int[] {-1, 4, MIN, MAX}) {
            checks.dueThrow("drive " + out, Checks.INDEX, () -> one.drive(out));
        }
        Particleway unspread = new Particleway();
        checks.dueThrow("drive ahead of spread", Checks.STATE, () -> unspread.drive(0));
        checks.dueThrow("drive 4 ahead of spread", Checks.INDEX, () -> unspread.drive(4));
        checks.due("nothing drawn", unspread.draw(1), 1);
    }

    /** On a field without walls. */
    private static int moved(int cell, int direction, int steps) {
        int x = cell % 8;
        int y = cell / 8;
        switch (direction) {
            case 0:
                x = Math.min(7, x + steps);
                break;
            case 1:
                y = Math.min(7, y + steps);
                break;
            case 2:
                x = Math.max(0, x - steps);
                break;
            default:
                y = Math.max(0, y - steps);
        }
        return 8 * y + x;
    }

    private void driveAmongWalls() {
        Particleway one = Fields.spreadOut(Fields.row(4, 2, 3), 64);
        for (int i = 0; i < 12; i++) {
            one.drive(0);
            one.drive(1);
            one.drive(3);
        }
        checks.due("all are at the wall", one.count(3, 4), 64);
        for (int i = 0; i < 12; i++) {
            one.drive(2);
        }
        checks.due("all are at the other wall", one.count(2, 4), 64);
    }

    private void limitOfTelling() {
        Particleway one = Fields.spreadOut(Fields.pair(), 8);
        for (int i = 0; i < 150; i++) {
            one.drive(i % 4);
            one.read(i % 4, 0);
        }
        long belief = one.belief(0, 0);
        int samples = one.samples();
        int drawn = one.draw(9);
        checks.dueThrow("drive the 301st", Checks.STATE, () -> one.drive(0));
        checks.dueThrow("read the 301st", Checks.STATE, () -> one.read(0, 0));
        checks.dueThrow("drive 4 the 301st", Checks.INDEX, () -> one.drive(4));
        checks.dueThrow("read 8 the 301st", Checks.ARGUMENT, () -> one.read(0, 8));
        checks.due("belief unchanged", one.belief(0, 0), belief);
        checks.due("all 300 repeated", one.beliefAnew(0, 0), belief);
        checks.due("samples unchanged", one.samples(), samples);
        checks.due("nothing drawn", one.draw(drawn), 9);
        one.spread(8);
        checks.dueThrow("drive when spread again", Checks.NOTHING, () -> one.drive(0));
        checks.dueThrow("read when spread again", Checks.NOTHING, () -> one.read(0, 0));
        Particleway driven = Fields.spreadOut(Fields.single(), 8);
        for (int i = 0; i < 300; i++) {
            checks.dueThrow("drive " + i, Checks.NOTHING, () -> driven.drive(0));
        }
        checks.dueThrow("drive 300 times", Checks.STATE, () -> driven.drive(0));
    }

    private void read() {
        int[] weights = {8, 3, 1, 0, 0, 0, 0, 0};
        for (int reading = 0; reading < 8; reading++) {
            Particleway one = Fields.spreadOut(Fields.single(), 10);
            checks.due("read " + reading + " where it is 0", one.read(3, reading), 10 * weights[reading]);
            Particleway less = Fields.spreadOut(Fields.row(0, 0, 7), 20);
            for (int i = 0; i < 40; i++) {
                less.drive(2);
            }
            checks.due("all are at 0", less.count(0, 0), 20);
            checks.due("read " + reading + " where it is 7", less.read(0, reading), 20 * weights[7 - reading]);
        }
        Particleway one = Fields.spreadOut(new Particleway(), 8);
        for (int out : new int[] {-1, 4, MIN, MAX}) {
            checks.dueThrow("read direction " + out, Checks.INDEX, () -> one.read(out, 0));
            checks.dueThrow("read both out " + out, Checks.INDEX, () -> one.read(out, 8));
        }
        for (int out : OUTSIDE) {
            checks.dueThrow("read " + out, Checks.ARGUMENT, () -> one.read(0, out));
        }
        checks.due("nothing drawn", one.draw(1), Fields.after(1, 8));
        checks.due("no read counted", one.doubt(), 0);
        Particleway unspread = new Particleway();
        checks.dueThrow("read ahead of spread", Checks.STATE, () -> unspread.read(0, 0));
        checks.dueThrow("read 8 ahead of spread", Checks.ARGUMENT, () -> unspread.read(0, 8));
        checks.dueThrow("read of 4 ahead of spread", Checks.INDEX, () -> unspread.read(4, 8));
    }

    /** Samples 1 1 1 0 1 1 1 1, W 59, r 43: the marks 2, 6, 10, 13, 17, 21, 24 .. meet the 0 at 24 alone. */
    private void drawnAnew() {
        Particleway one = Fields.spreadOut(Fields.pair(), 8);
        checks.due("read of a pair", one.read(0, 0), 59);
        dueSamples("drawn anew", one, 1, 1, 1, 1, 1, 1, 0, 1, 1, 1, 1, 1, 1, 1, 1, 1);
        checks.due("drawn once for r, once for each", one.draw(1), Fields.after(1, 8 + 1 + 16));
        Particleway many = Fields.spreadOut(new Particleway(), 64);
        many.read(0, 3);
        checks.due("at most 64", many.samples(), 64);
        Particleway few = Fields.spreadOut(Fields.single(), 64);
        few.read(0, 0);
        checks.due("one cell", few.samples(), 12);
        few.read(0, 1);
        checks.due("one cell again", few.samples(), 12);
        few.read(0, 2);
        checks.due("one cell of the least weight", few.samples(), 12);
        few.read(0, 3);
        checks.due("no cell", few.samples(), 8);
        // Of the 12 remainders by 256, 3 are below the doubt of 66, and draw a cell each.
        checks.due("drawn besides, where doubted", spreadReadTwice(), Fields.after(1, 8 + 13 + 13 + 3));
    }

    private static int spreadReadTwice() {
        Particleway one = Fields.spreadOut(Fields.single(), 8);
        one.read(0, 0);
        one.read(0, 1);
        return one.draw(1);
    }

    private void drawnAnywhere() {
        Particleway one = Fields.spreadOut(Fields.pair(), 8);
        checks.due("read that fits nowhere", one.read(0, 7), 0);
        dueSamples("drawn anywhere", one, 1, 0, 0, 0, 0, 1, 1, 1);
        checks.due("no r is drawn, but twice for each", one.draw(1), Fields.after(1, 8 + 16));
    }

    private void toRead() {
        Particleway one = new Particleway();
        one.wall(3, 0, true);
        one.wall(0, 5, true);
        one.wall(3, 5, true);
        checks.due("toRead to a wall", one.toRead(0, 0, 0), 2);
        checks.due("toRead beside a wall", one.toRead(2, 0, 0), 0);
        checks.due("toRead beyond a wall", one.toRead(4, 0, 0), 3);
        checks.due("toRead back to a wall", one.toRead(7, 0, 2), 3);
        checks.due("toRead down to a wall", one.toRead(0, 0, 1), 4);
        checks.due("toRead up to a wall", one.toRead(0, 7, 3), 1);
        checks.due("toRead between walls", one.toRead(3, 1, 1), 3);
        checks.due("toRead between walls, back", one.toRead(3, 4, 3), 3);
        checks.due("toRead across all", one.toRead(7, 7, 3), 7);
        for (int direction = 0; direction < 4; direction++) {
            checks.due("toRead in a wall", one.toRead(3, 5, direction), Particleway.NONE);
        }
        one.spread(8);
        checks.due("toRead when spread", one.toRead(0, 0, 0), 2);
        for (int out : OUTSIDE) {
            checks.dueThrow("toRead x " + out, Checks.INDEX, () -> one.toRead(out, 0, 0));
            checks.dueThrow("toRead y " + out, Checks.INDEX, () -> one.toRead(0, out, 0));
        }
        for (int out : new int[] {-1, 4, MIN, MAX}) {
            checks.dueThrow("toRead direction " + out, Checks.INDEX, () -> one.toRead(0, 0, out));
            checks.dueThrow("toRead in a wall, " + out, Checks.INDEX, () -> one.toRead(3, 0, out));
        }
    }

    private void samples() {
        Particleway one = new Particleway();
        checks.dueThrow("samples ahead of spread", Checks.STATE, () -> one.samples());
        one.spread(8);
        checks.due("samples", one.samples(), 8);
        one.drive(0);
        checks.due("samples when driven", one.samples(), 8);
        one.spread(64);
        checks.due("samples most", one.samples(), 64);
    }

    private void sample() {
        Particleway one = new Particleway();
        checks.dueThrow("sample ahead of spread", Checks.INDEX, () -> one.sample(0));
        one.spread(9);
        checks.due("sample first", one.sample(0), 21);
        checks.due("sample last", one.sample(8), Fields.after(1, 9) % 64);
        for (int out : new int[] {-1, 9, 64, MIN, MAX}) {
            checks.dueThrow("sample " + out, Checks.INDEX, () -> one.sample(out));
        }
        Particleway fewer = Fields.spreadOut(Fields.single(), 64);
        fewer.read(0, 0);
        checks.due("sample of fewer", fewer.sample(11), 0);
        checks.dueThrow("sample beyond fewer", Checks.INDEX, () -> fewer.sample(12));
    }

    private void count() {
        Particleway one = new Particleway();
        checks.dueThrow("count ahead of spread", Checks.STATE, () -> one.count(0, 0));
        checks.dueThrow("count outside ahead of spread", Checks.INDEX, () -> one.count(8, 0));
        one.spread(8);
        int[] due = {21, 49, 25, 28, 19, 51, 31, 1};
        for (int cell = 0; cell < 64; cell++) {
            int many = 0;
            for (int sample : due) {
                many += sample == cell ? 1 : 0;
            }
            checks.due("count " + cell, one.count(cell % 8, cell / 8), many);
        }
        Particleway two = Fields.spreadOut(Fields.pair(), 8);
        checks.due("count of a pair, 0", two.count(0, 0), 1);
        checks.due("count of a pair, 1", two.count(1, 0), 7);
        checks.due("count in a wall", two.count(2, 0), 0);
        two.read(0, 0);
        checks.due("count anew, 1", two.count(1, 0), 15);
        for (int out : OUTSIDE) {
            checks.dueThrow("count x " + out, Checks.INDEX, () -> one.count(out, 0));
            checks.dueThrow("count y " + out, Checks.INDEX, () -> one.count(0, out));
        }
    }

    private void belief() {
        Particleway one = new Particleway();
        one.wall(3, 0, true);
        checks.dueThrow("belief ahead of spread", Checks.STATE, () -> one.belief(0, 0));
        checks.dueThrow("belief outside ahead of spread", Checks.INDEX, () -> one.belief(0, 8));
        one.spread(8);
        for (int cell = 0; cell < 64; cell++) {
            checks.due("belief when spread " + cell, one.belief(cell % 8, cell / 8), cell == 3 ? 0 : 1);
        }
        one.drive(0);
        long[] first = {3, 15, 30, 0, 3, 15, 16, 30};
        long[] other = {3, 15, 16, 16, 16, 16, 16, 30};
        for (int x = 0; x < 8; x++) {
            checks.due("belief driven, " + x + ", 0", one.belief(x, 0), first[x]);
            checks.due("belief driven, " + x + ", 1", one.belief(x, 1), other[x]);
        }
        one.read(0, 1);
        long[] weighed = {3 * 3, 15 * 8, 30 * 3, 0, 3, 15 * 3, 16 * 8, 30 * 3};
        for (int x = 0; x < 8; x++) {
            checks.due("belief weighed, " + x + ", 0", one.belief(x, 0), weighed[x]);
        }
        for (int out : OUTSIDE) {
            checks.dueThrow("belief x " + out, Checks.INDEX, () -> one.belief(out, 0));
            checks.dueThrow("belief y " + out, Checks.INDEX, () -> one.belief(0, out));
        }
    }

    private void beliefsHalved() {
        Particleway one = Fields.spreadOut(Fields.single(), 8);
        for (int i = 0; i < 10; i++) {
            one.drive(1);
        }
        checks.due("not above", one.belief(0, 0), 1099511627776L);
        one.drive(1);
        checks.due("above, halved four times", one.belief(0, 0), 1099511627776L);
        one.read(0, 1);
        checks.due("read above, halved twice", one.belief(0, 0), 824633720832L);
        checks.due("anew alike", one.beliefAnew(0, 0), 824633720832L);
        Particleway two = Fields.spreadOut(Fields.pair(), 8);
        long[] least = {19683, 29524, 5535, 1037};
        long[] greatest = {137438933789L, 1099511598251L, 1099511622239L, 1099511626736L};
        for (int i = 1; i <= 12; i++) {
            two.drive(0);
            if (i >= 9) {
                checks.due("rounded down " + i, two.belief(0, 0), least[i - 9]);
                checks.due("greatest " + i, two.belief(1, 0), greatest[i - 9]);
                checks.due("rounded down anew " + i, two.beliefAnew(0, 0), least[i - 9]);
                checks.due("greatest anew " + i, two.beliefAnew(1, 0), greatest[i - 9]);
            }
        }
    }

    private void beliefsBegunAgain() {
        Particleway one = Fields.spreadOut(Fields.pair(), 8);
        one.drive(0);
        one.read(0, 4);
        for (int x = 0; x < 3; x++) {
            checks.due("begun again " + x, one.belief(x, 0), x < 2 ? 1 : 0);
            checks.due("begun again anew " + x, one.beliefAnew(x, 0), x < 2 ? 1 : 0);
        }
        one.read(0, 3);
        checks.due("weighed to 1", one.belief(0, 0), 1);
        checks.due("weighed to 0", one.belief(1, 0), 0);
        one.read(0, 0);
        checks.due("a last one stays", one.belief(0, 0), 3);
        checks.due("a 0 stays", one.belief(1, 0), 0);
        one.read(0, 4);
        checks.due("begun again, also from 0", one.belief(1, 0), 1);
    }

    private void beliefAnew() {
        Particleway one = new Particleway();
        one.wall(2, 2, true);
        one.wall(3, 2, true);
        one.wall(5, 5, true);
        checks.dueThrow("beliefAnew ahead of spread", Checks.STATE, () -> one.beliefAnew(0, 0));
        checks.dueThrow("beliefAnew outside ahead of spread", Checks.INDEX, () -> one.beliefAnew(-1, 0));
        one.spread(30);
        int[] readings = {3, 4, 0, 7};
        for (int i = 0; i < 8; i++) {
            one.drive(i % 4);
            one.drive(i % 3);
            one.read(i % 4, readings[i % 4]);
            // Some cells alone, as an object answers 512 calls.
            for (int cell = i % 3; cell < 64; cell += 3) {
                checks.due("beliefAnew " + i + ", " + cell,
                        one.beliefAnew(cell % 8, cell / 8), one.belief(cell % 8, cell / 8));
            }
        }
        Particleway driven = Fields.spreadOut(new Particleway(), 8);
        driven.drive(0);
        long[] due = {3, 15, 16, 16, 16, 16, 16, 30};
        for (int x = 0; x < 8; x++) {
            checks.due("beliefAnew driven " + x, driven.beliefAnew(x, 4), due[x]);
        }
        for (int out : OUTSIDE) {
            checks.dueThrow("beliefAnew x " + out, Checks.INDEX, () -> one.beliefAnew(out, 0));
            checks.dueThrow("beliefAnew y " + out, Checks.INDEX, () -> one.beliefAnew(0, out));
        }
    }

    private void mode() {
        Particleway one = new Particleway();
        checks.dueThrow("mode ahead of spread", Checks.STATE, () -> one.mode(true));
        checks.dueThrow("mode by beliefs ahead of spread", Checks.STATE, () -> one.mode(false));
        one.wall(0, 0, true);
        one.spread(8);
        checks.due("mode of alike beliefs", one.mode(false), 1);
        // Of 63 free cells, those at the places 23 35 38 55 3 60 3 41; at 3 is the cell 4.
        checks.due("mode of samples", one.mode(true), 4);
        one.drive(0);
        checks.due("mode of beliefs", one.mode(false), 7);
        Particleway alike = Fields.spreadOut(new Particleway(), 8);
        checks.due("mode of alike samples", alike.mode(true), 1);
        checks.due("mode is the lowest cell", alike.mode(false), 0);
        Particleway last = Fields.spreadOut(Fields.row(7, 7, 7), 8);
        checks.due("mode is the highest cell", last.mode(true), 63);
        checks.due("mode of beliefs is the highest cell", last.mode(false), 63);
    }

    private void mean() {
        Particleway one = new Particleway();
        checks.dueThrow("mean ahead of spread", Checks.STATE, () -> one.mean(true, true));
        checks.dueThrow("mean by beliefs ahead of spread", Checks.STATE, () -> one.mean(false, false));
        one.spread(8);
        // x 5 1 1 4 3 3 7 1, y 2 6 3 3 2 6 3 0
        checks.due("mean x of samples", one.mean(true, false), 312);
        checks.due("mean y of samples", one.mean(true, true), 312);
        checks.due("mean x of beliefs", one.mean(false, false), 350);
        checks.due("mean y of beliefs", one.mean(false, true), 350);
        one.drive(1);
        // By 128 in each column: 15 + 32 + 48 + 64 + 80 + 96 + 210
        checks.due("mean y of beliefs, driven", one.mean(false, true), 425);
        checks.due("mean x of beliefs, driven", one.mean(false, false), 350);
        Particleway two = Fields.spreadOut(Fields.pair(), 8);
        checks.due("mean x of a pair", two.mean(true, false), 87);
        checks.due("mean y of a pair", two.mean(true, true), 0);
        Particleway far = Fields.spreadOut(Fields.row(7, 7, 7), 8);
        for (int i = 0; i < 11; i++) {
            far.drive(0);
        }
        checks.due("mean of great beliefs", far.mean(false, true), 700);
    }

    private void share() {
        Particleway one = new Particleway();
        checks.dueThrow("share ahead of spread", Checks.STATE, () -> one.share(0, 0, 7, 7, true));
        checks.dueThrow("share of wrong region ahead of spread", Checks.ARGUMENT, () -> one.share(1, 0, 0, 7, true));
        checks.dueThrow("share outside ahead of spread", Checks.INDEX, () -> one.share(8, 0, 0, 7, true));
        one.spread(8);
        checks.due("share of all", one.share(0, 0, 7, 7, true), 1000);
        checks.due("share of all beliefs", one.share(0, 0, 7, 7, false), 1000);
        checks.due("share of a cell's samples", one.share(1, 0, 1, 0, true), 125);
        checks.due("share of a region's samples", one.share(1, 0, 4, 3, true), 500);
        checks.due("share of none", one.share(0, 7, 7, 7, true), 0);
        checks.due("share of a cell's belief", one.share(7, 7, 7, 7, false), 15);
        checks.due("share of a region's beliefs", one.share(2, 1, 4, 2, false), 93);
        for (int out : OUTSIDE) {
            checks.dueThrow("share x " + out, Checks.INDEX, () -> one.share(out, 0, 7, 7, true));
            checks.dueThrow("share y " + out, Checks.INDEX, () -> one.share(0, out, 7, 7, false));
            checks.dueThrow("share toX " + out, Checks.ARGUMENT, () -> one.share(0, 0, out, 7, true));
            checks.dueThrow("share toY " + out, Checks.ARGUMENT, () -> one.share(0, 0, 7, out, false));
            checks.dueThrow("share x and toY " + out, Checks.INDEX, () -> one.share(out, 0, 7, out, false));
        }
        checks.dueThrow("share toX below x", Checks.ARGUMENT, () -> one.share(3, 3, 2, 3, true));
        checks.dueThrow("share toY below y", Checks.ARGUMENT, () -> one.share(3, 3, 3, 2, true));
        Particleway two = Fields.spreadOut(Fields.pair(), 8);
        two.drive(0);
        checks.due("share of a pair, 0", two.share(0, 0, 0, 7, false), 93);
        checks.due("share of a pair, 1", two.share(1, 0, 7, 0, false), 906);
    }

    private void best() {
        Particleway one = new Particleway();
        checks.dueThrow("best ahead of spread", Checks.STATE, () -> one.best(0));
        checks.dueThrow("best -1 ahead of spread", Checks.INDEX, () -> one.best(-1));
        one.wall(0, 0, true);
        one.spread(8);
        checks.due("best of alike", one.best(0), 1);
        checks.due("best last", one.best(62), 63);
        for (int place : new int[] {63, 64, 65, 1000, MAX}) {
            checks.due("best " + place, one.best(place), Particleway.NONE);
        }
        for (int out : new int[] {-1, -64, MIN}) {
            checks.dueThrow("best " + out, Checks.INDEX, () -> one.best(out));
        }
        Particleway row = Fields.spreadOut(Fields.row(3, 0, 7), 8);
        row.drive(0);
        // 3 15 16 16 16 16 16 30
        int[] due = {31, 26, 27, 28, 29, 30, 25, 24, Particleway.NONE};
        for (int place = 0; place < due.length; place++) {
            checks.due("best in a row " + place, row.best(place), due[place]);
        }
        Particleway two = Fields.spreadOut(Fields.pair(), 8);
        checks.due("best is the lowest cell", two.best(0), 0);
        checks.due("second is the next", two.best(1), 1);
        two.drive(2);
        checks.due("best is the lowest cell, driven", two.best(0), 0);
        two.drive(0);
        two.drive(0);
        checks.due("second is the lowest cell", two.best(1), 0);
        row.read(0, 0);
        checks.due("best weighed", row.best(2), 29);
        checks.due("none of 0", row.best(3), Particleway.NONE);
    }

    private void doubt() {
        Particleway unspread = new Particleway();
        checks.dueThrow("doubt ahead of spread", Checks.STATE, () -> unspread.doubt());
        Particleway one = Fields.spreadOut(Fields.single(), 8);
        checks.due("doubt without a reading", one.doubt(), 0);
        one.drive(0);
        checks.due("doubt when driven", one.doubt(), 0);
        dueDoubts(new int[] {0, 1, 0, 0, 0}, new int[] {0, 66, 24, 5, 0});
        // The slow one falls by 17 and a half: to 219, not to 218.
        dueDoubts(new int[] {0, 1, 1}, new int[] {0, 66, 98});
        // The fast one falls from 47 to 24, not to 23.
        dueDoubts(new int[] {0, 2, 1, 0, 3, 3, 3}, new int[] {0, 95, 112, 35, 130, 184, 215});
        // No fit at first: the slow one is 0, until a reading fits.
        dueDoubts(new int[] {3, 3}, new int[] {256, 256});
        dueDoubts(new int[] {3, 0}, new int[] {256, 0});
    }

    private void dueDoubts(int[] readings, int[] doubts) {
        Particleway one = Fields.spreadOut(Fields.single(), 8);
        for (int i = 0; i < readings.length; i++) {
            one.read(0, readings[i]);
            checks.due("doubt " + i + " of " + doubts.length, one.doubt(), doubts[i]);
            one.drive(2);
            checks.due("doubt kept " + i, one.doubt(), doubts[i]);
        }
        one.spread(8);
        checks.due("doubt spread away", one.doubt(), 0);
    }

    /** A call that throws changes nothing: neither the chance, nor samples, nor beliefs. */
    private void orderOfExceptions() {
        Particleway one = Fields.spreadOut(new Particleway(), 8);
        Checks.Call[] wrong = {
            () -> one.wall(0, 0, true), () -> one.wall(8, 0, true), () -> one.draw(0), () -> one.spread(7),
            () -> one.drive(4), () -> one.read(0, 8), () -> one.read(4, 0), () -> one.toRead(0, 0, 4),
            () -> one.sample(8), () -> one.count(0, 8), () -> one.belief(8, 0), () -> one.beliefAnew(8, 0),
            () -> one.share(0, 0, 8, 0, true), () -> one.best(-1),
        };
        for (Checks.Call call : wrong) {
            checks.holds("throws", Checks.thrown(call) != Checks.NOTHING);
        }
        dueSamples("unchanged", one, 21, 49, 25, 28, 19, 51, 31, 1);
        checks.due("belief unchanged", one.belief(0, 0), 1);
        checks.due("beliefAnew unchanged", one.beliefAnew(0, 0), 1);
        checks.due("doubt unchanged", one.doubt(), 0);
        checks.due("draw unchanged", one.draw(1), Fields.after(1, 8));
    }
}
