import java.io.IOException;
import java.util.Arrays;

/** A test for each sentence ahead of the document's promises that names a boundary case. */
public final class TermBoundsTest {
    private static final int[] OUTSIDE = {-1, 8, 64, Integer.MIN_VALUE, Integer.MAX_VALUE};
    private static final int[] NO_DIRECTIONS = {-1, 4, Integer.MIN_VALUE, Integer.MAX_VALUE};
    private static final int[] STEP = {1, 8, -1, -8};
    private static final long MOST_BELIEVED = 1099511627776L;

    private final Checks checks = new Checks();

    public static void main(String[] args) throws IOException {
        TermBoundsTest test = new TermBoundsTest();
        Sentences sentences = new Sentences(test.checks, args);
        test.holdField(sentences);
        test.holdChance(sentences);
        test.holdAverages(sentences);
        test.holdDrawnAnew(sentences);
        test.holdBeliefs(sentences);
        test.checks.end();
    }

    private void holdField(Sentences sentences) {
        sentences.hold("What it is", "An object is used for at most 512 calls after it has been made", this::lastCall);
        String field = "The field";
        sentences.hold(field, "The field has 8 times 8 cells, x and y from 0 to 7", this::cellsOfTheField);
        sentences.hold(field, "a cell has the number 8 times y and x, together", this::numbersOfCells);
        sentences.hold(field, "A cell is a wall, or free, as at first.", this::freeAtFirst);
        sentences.hold(field, "Directions are 0 to 3: x 1 more, y 1 more, x 1 less, y 1 less", this::directions);
        sentences.hold(field, "if that is in the field and free; otherwise it stays where it is", this::stepsAtEdges);
        sentences.hold(field, "A step in a direction leads to the next cell, if that is in the field and free;",
                this::stepsAtWalls);
        sentences.hold(field, "how many steps lead on, one behind the other, ahead of one that stays",
                this::stepsToRead);
        sentences.hold(field, "is 8, if it is what is to be read there, 3, if it is 1 more or less, 1, if 2, otherwise 0",
                this::weights);
    }

    private void holdChance(Sentences sentences) {
        String field = "The field";
        sentences.hold(field, "There is a number x, 1 at first", this::firstNumber);
        sentences.hold(field, "x becomes 75 times x and 74, together, by its remainder by 65537", this::drawnNumbers);
        sentences.hold(field, "take the free cell, by rising numbers, whose place, from 0, is the remainder of what is "
                + "drawn by how many are free", this::drawnCells);
        sentences.hold(field, "To spread so many samples is to draw a cell for each", this::cellForEach);
        sentences.hold(field, "all that was driven and read ahead of it is over", this::allIsOver);
        sentences.hold(field, "To drive in a direction draws for each sample, in their order", this::drawsForEach);
        sentences.hold(field, "by the remainder by 16 below 12 it makes one step, below 15 none, otherwise two",
                this::stepsByRemainder);
    }

    private void holdAverages(Sentences sentences) {
        String field = "The field";
        sentences.hold(field, "A reading gives each sample its weight; W is the sum.", this::leastAndMostOfW);
        sentences.hold(field, "32 times W, divided by how many samples there are, rounded down", this::fitRoundedDown);
        sentences.hold(field, "are the fit with the first reading since they were spread", this::firstReading);
        sentences.hold(field, "grows by an eighth of what the fit is more than it, the fast one by a half, each rounded "
                + "towards 0 (it falls, if that is below 0)", this::averagesRounded);
        sentences.hold(field, "The doubt is 256 less a quotient, but at least 0", this::leastDoubt);
        sentences.hold(field, "that of 256 times the fast one by the slow one, rounded down", this::quotientRoundedDown);
        sentences.hold(field, "it is 256, if the slow one is 0", this::mostDoubt);
    }

    private void holdDrawnAnew(Sentences sentences) {
        String field = "The field";
        sentences.hold(field, "4 for each cell with samples of a weight above 0, and 8, but at most 64", this::manyAnew);
        sentences.hold(field, "First r is drawn, by its remainder by W", this::remainderByW);
        sentences.hold(field, "(nothing is drawn, and r is 0, if W is 0)", this::nothingDrawnForR);
        sentences.hold(field, "For each new one, the number k of them from 0 on: it is drawn once, also if W is 0",
                this::drawnOnceForEach);
        sentences.hold(field, "if W is 0, or the remainder by 256 of that is below the doubt, a cell is drawn for it "
                + "besides", this::belowTheDoubt);
        sentences.hold(field, "it is in the cell of the first old sample, in their order, with which the sum of weights up "
                + "to it, its own with it, is above the quotient", this::firstOldSample);
        sentences.hold(field, "the quotient of r and k times W, together, by how many there will be, rounded down",
                this::markRoundedDown);
    }

    private void holdBeliefs(Sentences sentences) {
        String beliefs = "Beliefs";
        sentences.hold(beliefs, "1 of each free cell, 0 of a wall, when samples are spread", this::beliefsAtFirst);
        sentences.hold(beliefs, "12 times those of cells from which one step leads there, 3 times its own, and those of "
                + "cells from which two steps do", this::beliefsAtEdges);
        sentences.hold(beliefs, "A reading multiplies each by the weight in the cell", this::beliefsWeighed);
        sentences.hold(beliefs, "if all are 0 then, all are as when samples were spread", this::allBeliefsGone);
        sentences.hold(beliefs, "as long as the greatest one is above 1099511627776, all are halved", this::greatestBelief);
        sentences.hold(beliefs, "Behind each of both", this::halvedBehindBoth);
        sentences.hold(beliefs, "all are halved, rounded down", this::halvedRoundedDown);
    }

    // ---- what it is, the field

    private void lastCall() {
        Particleway one = new Particleway();
        Particleway brief = new Particleway();
        one.spread(64);
        brief.spread(64);
        for (int i = 0; i < 150; i++) {
            one.drive(i % 4);
            one.read(i % 4, i % 8);
            brief.drive(i % 4);
            brief.read(i % 4, i % 8);
        }
        for (int call = 302; call < 512; call++) {
            one.beliefAnew(call % 8, call / 8 % 8);
        }
        checks.due("the 512th call", one.beliefAnew(3, 4), brief.belief(3, 4));
        Particleway drawn = new Particleway();
        for (int call = 1; call <= 512; call++) {
            checks.due("draw, call " + call, drawn.draw(call + 1), call);
        }
    }

    private void cellsOfTheField() {
        Particleway bare = new Particleway();
        Particleway one = Fields.spreadOut(new Particleway(), 64);
        int counted = 0;
        for (int cell = 0; cell < 64; cell++) {
            int x = cell % 8;
            int y = cell / 8;
            checks.holds("wall " + x + " " + y, !bare.wall(x, y, false));
            checks.due("toRead " + x + " " + y, bare.toRead(x, y, 0), 7 - x);
            checks.due("belief " + x + " " + y, one.belief(x, y), 1);
            checks.due("beliefAnew " + x + " " + y, one.beliefAnew(x, y), 1);
            checks.due("share " + x + " " + y, one.share(x, y, x, y, false), 15);
            counted += one.count(x, y);
        }
        checks.due("all samples are in the cells", counted, 64);
        for (int out : OUTSIDE) {
            for (int in = 0; in < 8; in += 7) {
                dueOutside(bare, one, out, in);
                dueOutside(bare, one, in, out);
            }
            dueOutside(bare, one, out, out);
        }
    }

    private void dueOutside(Particleway bare, Particleway spread, int x, int y) {
        String cell = " " + x + " " + y;
        checks.dueThrow("wall" + cell, Checks.INDEX, () -> bare.wall(x, y, true));
        checks.dueThrow("toRead" + cell, Checks.INDEX, () -> bare.toRead(x, y, 0));
        checks.dueThrow("count" + cell, Checks.INDEX, () -> spread.count(x, y));
        checks.dueThrow("belief" + cell, Checks.INDEX, () -> spread.belief(x, y));
        checks.dueThrow("beliefAnew" + cell, Checks.INDEX, () -> spread.beliefAnew(x, y));
        checks.dueThrow("share" + cell, Checks.INDEX, () -> spread.share(x, y, 7, 7, true));
    }

    private void numbersOfCells() {
        for (int cell = 0; cell < 64; cell++) {
            Particleway one = Fields.spreadOut(Fields.only(cell), 8);
            checks.due("sample in " + cell, one.sample(7), cell);
            checks.due("mode by samples in " + cell, one.mode(true), cell);
            checks.due("mode by beliefs in " + cell, one.mode(false), cell);
            checks.due("best in " + cell, one.best(0), cell);
            checks.due("count in " + cell, one.count(cell % 8, cell / 8), 8);
        }
    }

    private void freeAtFirst() {
        Particleway one = new Particleway();
        for (int cell = 0; cell < 64; cell++) {
            checks.holds(cell + " was free", !one.wall(cell % 8, cell / 8, false));
        }
        one.spread(8);
        for (int cell = 0; cell < 64; cell++) {
            checks.due("belief of a free cell " + cell, one.belief(cell % 8, cell / 8), 1);
        }
    }

    private void directions() {
        Particleway one = new Particleway();
        one.wall(3, 0, true);
        one.wall(0, 4, true);
        int[] due = {2, 3, 0, 0};
        for (int direction = 0; direction < 4; direction++) {
            checks.due("toRead in direction " + direction, one.toRead(0, 0, direction), due[direction]);
        }
        one.spread(8);
        for (int direction = 0; direction < 4; direction++) {
            Particleway driven = spreadFrom(new Particleway(), 27);
            Fields.setDraw(driven, 1, 0);
            driven.drive(direction);
            checks.due("one step in direction " + direction, driven.sample(0), 27 + STEP[direction]);
            int told = direction;
            checks.dueThrow("read in direction " + direction, Checks.NOTHING, () -> driven.read(told, 0));
        }
        for (int out : NO_DIRECTIONS) {
            checks.dueThrow("toRead in direction " + out, Checks.INDEX, () -> one.toRead(1, 1, out));
            checks.dueThrow("drive in direction " + out, Checks.INDEX, () -> one.drive(out));
            checks.dueThrow("read in direction " + out, Checks.INDEX, () -> one.read(out, 0));
        }
    }

    /** The first of eight samples is in the free cell of this place. */
    private static Particleway spreadFrom(Particleway one, int place) {
        Fields.setDraw(one, 1, place);
        one.spread(8);
        return one;
    }

    private void stepsAtEdges() {
        int[] remainders = {15, 0, 12};
        int[] steps = {2, 1, 0};
        for (int cell = 0; cell < 64; cell++) {
            for (int direction = 0; direction < 4; direction++) {
                for (int i = 0; i < 3; i++) {
                    Particleway one = spreadFrom(new Particleway(), cell);
                    Fields.setDraw(one, 1, remainders[i]);
                    one.drive(direction);
                    checks.due(steps[i] + " steps from " + cell + " in direction " + direction,
                            one.sample(0), ledInBareField(cell, direction, steps[i]));
                }
            }
        }
    }

    private static int ledInBareField(int cell, int direction, int steps) {
        int along = direction % 2 == 0 ? cell % 8 : cell / 8;
        int end = direction < 2 ? Math.min(7, along + steps) : Math.max(0, along - steps);
        return direction % 2 == 0 ? cell / 8 * 8 + end : end * 8 + cell % 8;
    }

    /** A corridor of three cells amid walls: steps stay at its end, one step or two. */
    private void stepsAtWalls() {
        long[] beliefs = {3, 15, 30};
        for (int direction = 0; direction < 4; direction++) {
            int[] cells = {27, 27 + STEP[direction], 27 + 2 * STEP[direction]};
            for (int from = 0; from < 3; from++) {
                for (int steps = 1; steps <= 2; steps++) {
                    Particleway one = spreadFrom(Fields.only(cells), direction < 2 ? from : 2 - from);
                    checks.due("the first sample in direction " + direction, one.sample(0), cells[from]);
                    Fields.setDraw(one, 1, steps == 1 ? 0 : 15);
                    one.drive(direction);
                    checks.due(steps + " steps from place " + from + " in direction " + direction,
                            one.sample(0), cells[Math.min(2, from + steps)]);
                    int x = cells[from] % 8;
                    int y = cells[from] / 8;
                    checks.due("belief of place " + from, one.belief(x, y), beliefs[from]);
                    checks.due("beliefAnew of place " + from, one.beliefAnew(x, y), beliefs[from]);
                }
            }
        }
    }

    private void stepsToRead() {
        Particleway bare = new Particleway();
        for (int cell = 0; cell < 64; cell++) {
            int x = cell % 8;
            int y = cell / 8;
            int[] due = {7 - x, 7 - y, x, y};
            for (int direction = 0; direction < 4; direction++) {
                checks.due("toRead " + cell + " " + direction, bare.toRead(x, y, direction), due[direction]);
            }
        }
        Particleway one = new Particleway();
        one.wall(3, 2, true);
        int[] right = {2, 1, 0, Particleway.NONE, 3, 2, 1, 0};
        int[] left = {0, 1, 2, Particleway.NONE, 0, 1, 2, 3};
        for (int x = 0; x < 8; x++) {
            checks.due("ahead of a wall and behind it, from " + x, one.toRead(x, 2, 0), right[x]);
            checks.due("back to a wall and ahead of it, from " + x, one.toRead(x, 2, 2), left[x]);
        }
        int[] down = {1, 0, Particleway.NONE, 4, 3, 2, 1, 0};
        int[] up = {0, 1, Particleway.NONE, 0, 1, 2, 3, 4};
        for (int y = 0; y < 8; y++) {
            checks.due("down to a wall and behind it, from " + y, one.toRead(3, y, 1), down[y]);
            checks.due("up to a wall and ahead of it, from " + y, one.toRead(3, y, 3), up[y]);
        }
    }

    /** From readings too small by three to such as are too great by four. */
    private void weights() {
        int[] due = {0, 1, 3, 8, 3, 1, 0, 0};
        for (int reading = 0; reading < 8; reading++) {
            Particleway one = Fields.gathered(Fields.row(0, 0, 3), 10, 2, 0);
            checks.due("read " + reading + " where it is 3", one.read(0, reading), 10 * due[reading]);
        }
        int[] dueOf7 = {0, 0, 0, 0, 0, 1, 3, 8};
        for (int reading = 0; reading < 8; reading++) {
            Particleway one = Fields.gathered(Fields.row(0, 0, 7), 10, 2, 0);
            checks.due("read " + reading + " where it is 7", one.read(0, reading), 10 * dueOf7[reading]);
        }
        int[] dueOf0 = {8, 3, 1, 0, 0, 0, 0, 0};
        for (int reading = 0; reading < 8; reading++) {
            Particleway one = Fields.spreadOut(Fields.single(), 10);
            checks.due("read " + reading + " where it is 0", one.read(3, reading), 10 * dueOf0[reading]);
        }
    }

    // ---- chance

    private void firstNumber() {
        checks.due("the number of a new object", new Particleway().draw(1), 1);
        Particleway one = Fields.spreadOut(new Particleway(), 8);
        checks.due("149 is drawn first", one.sample(0), 149 % 64);
    }

    private void drawnNumbers() {
        // 872 leads to 65474, 873 to 65549, which is 12 above 65537; 45438 to 65537 times 52.
        int[][] drawn = {{872, 65474}, {873, 12}, {45438, 0}, {65535, 65461}, {65536, 65536}};
        for (int[] row : drawn) {
            Particleway one = new Particleway();
            one.draw(row[0]);
            one.spread(8);
            checks.due("a cell drawn from " + row[0], one.sample(0), row[1] % 64);
            checks.due("a cell drawn next from " + row[0], one.sample(1), (int) ((75L * row[1] + 74) % 65537 % 64));
        }
        Particleway greatest = new Particleway();
        greatest.draw(65536);
        greatest.spread(64);
        checks.due("65536 leads to itself", greatest.draw(1), 65536);
        Particleway least = new Particleway();
        Fields.setDraw(least, 8, 0);
        least.spread(8);
        checks.due("0 is drawn", least.draw(1), 0);
        Particleway behind = new Particleway();
        Fields.setDraw(behind, 8, 0);
        behind.spread(8);
        behind.spread(8);
        checks.due("74 is drawn behind 0", behind.sample(0), 74 % 64);
    }

    private void drawnCells() {
        int[][] drawn = {{0, 1}, {7, 8}, {8, 10}, {60, 62}, {61, 1}, {122, 1}, {65535, 23}, {65536, 24}};
        for (int[] row : drawn) {
            Particleway one = new Particleway();
            one.wall(0, 0, true);
            one.wall(1, 1, true);
            one.wall(7, 7, true);
            Fields.setDraw(one, 1, row[0]);
            one.spread(8);
            checks.due("the cell by " + row[0] + " of 61 free ones", one.sample(0), row[1]);
        }
        Particleway last = Fields.spreadOut(Fields.only(63), 64);
        checks.due("all by a single free cell", last.count(7, 7), 64);
        Particleway bare = spreadFrom(new Particleway(), 63);
        checks.due("the last place without walls", bare.sample(0), 63);
    }

    private void cellForEach() {
        for (int many = 8; many <= 64; many += 56) {
            Particleway one = new Particleway();
            one.draw(500);
            one.spread(many);
            for (int i = 0; i < many; i++) {
                checks.due("sample " + i + " of " + many, one.sample(i), Fields.after(500, i + 1) % 64);
            }
            checks.due("drawn " + many + " times", one.draw(1), Fields.after(500, many));
        }
    }

    private void allIsOver() {
        Particleway one = Fields.spreadOut(Fields.pair(), 64);
        Particleway other = Fields.pair();
        for (int i = 0; i < 20; i++) {
            one.drive(i % 2);
            one.read(0, i % 5);
        }
        one.drive(0);
        checks.holds("there is a doubt", one.doubt() > 0);
        checks.due("a belief of 3 times 1", one.belief(0, 0), 3);
        one.draw(77);
        other.draw(77);
        one.spread(9);
        other.spread(9);
        checks.due("doubt when spread again", one.doubt(), 0);
        checks.due("samples when spread again", one.samples(), 9);
        for (int x = 0; x < 3; x++) {
            checks.due("belief when spread again", one.belief(x, 0), x < 2 ? 1 : 0);
            checks.due("beliefAnew when spread again", one.beliefAnew(x, 0), x < 2 ? 1 : 0);
        }
        for (int i = 0; i < 6; i++) {
            checks.due("W as without the rest", one.read(0, i % 3), other.read(0, i % 3));
            checks.due("doubt as without the rest", one.doubt(), other.doubt());
            checks.due("samples as without the rest", one.samples(), other.samples());
            checks.due("belief as without the rest", one.belief(0, 0), other.belief(0, 0));
            checks.due("beliefAnew as without the rest", one.beliefAnew(0, 0), other.beliefAnew(0, 0));
        }
    }

    private void drawsForEach() {
        Particleway one = Fields.spreadOut(new Particleway(), 64);
        int[] before = new int[64];
        for (int i = 0; i < 64; i++) {
            before[i] = one.sample(i);
        }
        one.draw(4000);
        one.drive(1);
        for (int i = 0; i < 64; i++) {
            int remainder = Fields.after(4000, i + 1) % 16;
            int steps = remainder < 12 ? 1 : remainder < 15 ? 0 : 2;
            checks.due("sample " + i, one.sample(i), ledInBareField(before[i], 1, steps));
        }
        checks.due("drawn 64 times", one.draw(1), Fields.after(4000, 64));
        Particleway walled = Fields.spreadOut(Fields.single(), 8);
        walled.draw(4000);
        walled.drive(1);
        checks.due("drawn also where no step leads on", walled.draw(1), Fields.after(4000, 8));
    }

    private void stepsByRemainder() {
        for (int drawn = 0; drawn <= 65536; drawn += drawn == 31 ? 65489 : 1) {
            Particleway one = spreadFrom(new Particleway(), 18);
            Fields.setDraw(one, 1, drawn);
            one.drive(0);
            int remainder = drawn % 16;
            int due = remainder == 15 ? 20 : remainder == 12 || remainder == 13 || remainder == 14 ? 18 : 19;
            checks.due("driven where " + drawn + " is drawn", one.sample(0), due);
        }
    }

    // ---- readings, averages, doubt

    private void leastAndMostOfW() {
        checks.due("W of 64 samples of weight 8", Fields.spreadOut(Fields.single(), 64).read(0, 0), 512);
        checks.due("W of 64 samples of weight 0", Fields.spreadOut(Fields.single(), 64).read(0, 3), 0);
        checks.due("W of a sample of weight 1", Fields.spreadOut(Fields.pair(), 8).read(0, 3), 1);
    }

    private void fitRoundedDown() {
        Particleway one = oneOfManyFits();
        checks.due("W is 1 of 64 samples", one.read(0, 3), 1);
        checks.due("so the fit is 0", one.doubt(), 256);
        // 32 times 62 by 9 is 220.4; then the averages are 193 and 112.
        Particleway nine = Fields.spreadOut(Fields.pair(), 9);
        checks.due("W of nine samples", nine.read(0, 0), 62);
        checks.due("W of sixteen samples", nine.read(0, 3), 2);
        checks.due("the fit was 220", nine.doubt(), 108);
    }

    /** One of 64 samples is in the cell 0, all others are in the cell 1. */
    private Particleway oneOfManyFits() {
        Particleway one = Fields.spreadOut(Fields.pair(), 64);
        one.drive(0);
        one.drive(0);
        checks.due("one of 64 samples at 0", one.count(0, 0), 1);
        return one;
    }

    private void firstReading() {
        int[] doubts = {0, 0, 0, 256};
        for (int reading = 0; reading < 4; reading++) {
            Particleway one = Fields.spreadOut(Fields.single(), 8);
            one.read(0, reading);
            checks.due("doubt of a first reading " + reading, one.doubt(), doubts[reading]);
            one.read(0, 0);
            one.spread(8);
            one.read(0, reading);
            checks.due("doubt of a first reading again " + reading, one.doubt(), doubts[reading]);
        }
    }

    /** By readings in a single cell, with a fit of 256, 96, 32 or 0. */
    private void dueDoubts(int[] readings, int... doubts) {
        Particleway one = Fields.spreadOut(Fields.single(), 8);
        int first = readings.length - doubts.length;
        for (int i = 0; i < readings.length; i++) {
            one.read(0, readings[i]);
            if (i >= first) {
                checks.due("doubt " + i, one.doubt(), doubts[i - first]);
            }
        }
    }

    private void averagesRounded() {
        // The slow one falls by 17 and a half, from 236 to 219; the fast ones are 176, 136.
        dueDoubts(new int[] {0, 1, 1}, 0, 66, 98);
        // The slow one grows by 24 and a half, from 60 to 84; it ends as 57, and the fast one as 25.
        dueDoubts(new int[] {2, 0, 0, 3, 3, 3}, 0, 0, 0, 0, 60, 144);
        // The fast one falls by 23 and a half, from 47 to 24, by the slow one of 147.
        dueDoubts(new int[] {0, 2, 1, 0, 3, 3, 3}, 0, 95, 112, 35, 130, 184, 215);
        // The fast one grows by 24 and a half, from 47 to 71, by the slow one of 159.
        dueDoubts(new int[] {0, 2, 1, 0, 3, 3, 1}, 0, 95, 112, 35, 130, 184, 142);
        // The slow one stays at 7 and the fast one at 1, as 7 eighths and a half are rounded to 0.
        int[] falling = new int[60];
        Arrays.fill(falling, 1, 60, 3);
        dueDoubts(falling, 220, 220);
        // The slow one stays at 249, the fast one at 255; then they are 218 and 128.
        int[] growing = new int[62];
        growing[0] = 2;
        growing[61] = 3;
        dueDoubts(growing, 106);
    }

    private void leastDoubt() {
        // 256 times 144 by 60 is above 256.
        dueDoubts(new int[] {2, 0}, 0, 0);
        // The quotient is 256.
        dueDoubts(new int[] {1, 1}, 0, 0);
        // The quotients are 190, 232, 251 and 260: 256 times 236 by 240, then 246 by 242.
        dueDoubts(new int[] {0, 1, 0, 0, 0}, 66, 24, 5, 0);
    }

    private void quotientRoundedDown() {
        // 256 times 176 by 236 is 190.9.
        dueDoubts(new int[] {0, 1}, 66);
        // 256 times 128 by 224 is 146.3.
        dueDoubts(new int[] {0, 3}, 110);
    }

    private void mostDoubt() {
        dueDoubts(new int[] {3}, 256);
        dueDoubts(new int[] {3, 3}, 256, 256);
        // The slow one is 32 then.
        dueDoubts(new int[] {3, 0}, 256, 0);
        Particleway one = Fields.pair();
        one.draw(97);
        one.spread(8);
        checks.due("no fit", one.read(0, 7), 0);
        checks.due("a fit of 4, half an eighth", one.read(0, 3), 1);
        checks.due("the slow one is 0, the fast one 2", one.doubt(), 256);
    }

    // ---- samples drawn anew

    private void manyAnew() {
        int[] due = {12, 16, 56, 60, 64, 64, 64};
        int[] cells = {1, 2, 12, 13, 14, 15, 17};
        for (int i = 0; i < cells.length; i++) {
            Particleway one = Fields.spreadOut(Fields.only(inColumns(cells[i])), 64);
            checks.due("W of " + cells[i] + " cells", one.read(0, 0), 512);
            checks.due("samples anew of " + cells[i] + " cells", one.samples(), due[i]);
        }
        Particleway highest = Fields.spreadOut(Fields.only(63), 64);
        highest.read(0, 0);
        checks.due("samples anew of the highest cell", highest.samples(), 12);
        Particleway none = Fields.spreadOut(Fields.pair(), 64);
        none.read(0, 7);
        checks.due("samples anew of no cell", none.samples(), 8);
        Particleway half = Fields.spreadOut(Fields.pair(), 64);
        half.read(0, 3);
        checks.due("samples anew, one of two cells with a weight of 1", half.samples(), 12);
        Particleway far = Fields.gathered(Fields.pair(), 64, 0, 1);
        far.read(0, 0);
        checks.due("samples anew, one of two cells without samples", far.samples(), 12);
    }

    /** No two of the cells are beside one another, so that 0 is to be read in each. */
    private static int[] inColumns(int many) {
        int[] cells = new int[many];
        for (int i = 0; i < many; i++) {
            cells[i] = 8 * (i % 8) + 2 * (i / 8);
        }
        return cells;
    }

    /** Samples 1 1 1 0 1 1 1 1, W 59: among the weights, those from 24 to 26 are the 0's. */
    private static Particleway fourthAtZero(int drawnForR) {
        Particleway one = Fields.spreadOut(Fields.pair(), 8);
        Fields.setDraw(one, 1, drawnForR);
        one.read(0, 0);
        return one;
    }

    /** The only new sample at the cell 0; NONE, if there is none. */
    private int placeOfZero(Particleway one) {
        int place = Particleway.NONE;
        for (int i = 0; i < one.samples(); i++) {
            place = one.sample(i) == 0 ? i : place;
        }
        checks.due("how many are at 0", one.count(0, 0), place == Particleway.NONE ? 0 : 1);
        return place;
    }

    private void remainderByW() {
        checks.due("r is 0", placeOfZero(fourthAtZero(0)), 7);
        checks.due("r is 58", placeOfZero(fourthAtZero(58)), 6);
        checks.due("r is 0 by 59", placeOfZero(fourthAtZero(59)), 7);
        checks.due("r is 58 by 117", placeOfZero(fourthAtZero(117)), 6);
        Particleway one = Fields.spreadOut(Fields.pair(), 8);
        int x = Fields.setDraw(one, 1, 7);
        checks.due("W is 1", one.read(0, 3), 1);
        checks.due("drawn also if r can be 0 alone", one.draw(1), Fields.after(x, 1 + 12));
        checks.due("all are where it fits", one.count(0, 0), 12);
    }

    private void nothingDrawnForR() {
        Particleway one = Fields.spreadOut(Fields.pair(), 8);
        one.draw(600);
        checks.due("W is 0", one.read(0, 7), 0);
        for (int i = 0; i < 8; i++) {
            checks.due("sample " + i + " by the second draw of its two", one.sample(i), Fields.after(600, 2 * i + 2) % 2);
        }
        checks.due("drawn twice for each, and no more", one.draw(1), Fields.after(600, 16));
    }

    private void drawnOnceForEach() {
        Particleway fits = Fields.spreadOut(Fields.single(), 8);
        fits.draw(600);
        fits.read(0, 0);
        checks.due("drawn for r, and once for each of 12", fits.draw(1), Fields.after(600, 13));
        Particleway most = Fields.spreadOut(Fields.only(inColumns(14)), 64);
        most.draw(600);
        most.read(0, 0);
        checks.due("drawn for r, and once for each of 64", most.draw(1), Fields.after(600, 65));
        Particleway none = Fields.spreadOut(Fields.single(), 8);
        none.read(0, 0);
        none.draw(600);
        checks.due("W is 0", none.read(0, 3), 0);
        checks.due("drawn once for each of 8, and a cell for each", none.draw(1), Fields.after(600, 16));
    }

    /** All samples at the cell 1; what is drawn for the first new one is followed by what draws the cell 0. */
    private int firstAnew(int reading, int drawn) {
        checks.due("the next draw is even", Fields.next(drawn) % 2, 0);
        Particleway one = Fields.gathered(Fields.pair(), 8, 0, 1);
        if (reading != 0) {
            one.read(0, 0);
        }
        Fields.setDraw(one, 2, drawn);
        one.read(0, reading);
        checks.due("the doubt", one.doubt(), reading == 0 ? 0 : 66);
        return one.sample(0);
    }

    private void belowTheDoubt() {
        checks.due("65 is below 66", firstAnew(1, 1089), 0);
        checks.due("66 is not", firstAnew(1, 66), 1);
        checks.due("0 by 256 is below 66", firstAnew(1, 256), 0);
        checks.due("0 is not below 0", firstAnew(0, 0), 1);
        checks.due("0 by 256 is not below 0", firstAnew(0, 256), 1);
        Particleway doubted = oneOfManyFits();
        // 255 by 256 is drawn for the first new one, then what draws the cell 1, where it does not fit.
        int x = Fields.setDraw(doubted, 2, 767);
        checks.due("the next draw is odd", Fields.next(767) % 2, 1);
        checks.due("W is 1", doubted.read(0, 3), 1);
        checks.due("255 is below 256", doubted.sample(0), 1);
        checks.due("drawn for r, and twice for each of 12", doubted.draw(1), Fields.after(x, 25));
        Particleway none = Fields.gathered(Fields.pair(), 8, 0, 1);
        none.read(0, 0);
        none.draw(601);
        checks.due("W is 0", none.read(0, 7), 0);
        checks.due("with some doubt alone", none.doubt(), 110);
        for (int i = 0; i < 8; i++) {
            checks.due("a cell is drawn for each, " + i, none.sample(i), Fields.after(601, 2 * i + 2) % 2);
        }
    }

    private void firstOldSample() {
        // The sum up to the third is 24, so a mark of 24 meets the fourth, and a mark of 27 the fifth.
        checks.due("a mark of 24 for k 6, 27 for k 7", placeOfZero(fourthAtZero(30)), 6);
        checks.due("marks of 23 and 27", placeOfZero(fourthAtZero(29)), Particleway.NONE);
        Particleway one = Fields.gathered(Fields.pair(), 64, 0, 1);
        one.drive(2);
        one.read(0, 3);
        checks.due("no new one where the weight is 0", one.count(1, 0), 0);
        // 0 1 1 1 1 1 1 1, then 1 1 1 1 1 1 1 0: W is 59 both times, the 0's weights are the first and the last 3.
        checks.due("the first, below 3", firstOrLast(180, 47, 0), 0);
        checks.due("the second, from 3", firstOrLast(180, 48, 0), 1);
        checks.due("the last but one, below 56", firstOrLast(23, 10, 15), 1);
        checks.due("the last, from 56", firstOrLast(23, 11, 15), 0);
        checks.due("the last, below 59", firstOrLast(23, 58, 15), 0);
        Particleway most = Fields.pair();
        most.draw(2);
        most.spread(64);
        checks.due("the first of 64", most.sample(0), 0);
        checks.due("the last of 64", most.sample(63), 1);
        int w = 3 * most.count(0, 0) + 8 * most.count(1, 0);
        Fields.setDraw(most, 1, w - 1);
        checks.due("W of 64", most.read(0, 0), w);
        checks.due("the last of 64, below W", most.sample(15), 1);
        // Of 64 samples but 12 are left: those behind them are none any more.
        Particleway fewer = Fields.spreadOut(Fields.single(), 64);
        fewer.read(0, 0);
        checks.due("the old samples are 12", fewer.read(0, 0), 96);
    }

    private int firstOrLast(int x, int r, int place) {
        Particleway one = Fields.pair();
        one.draw(x);
        one.spread(8);
        checks.due("one of eight at 0", one.count(0, 0), 1);
        Fields.setDraw(one, 1, r);
        checks.due("W", one.read(0, 0), 59);
        return one.sample(place);
    }

    private void markRoundedDown() {
        // (29 + 6 * 59) / 16 is 23.9, (18 + 7 * 59) / 16 is 26.9, (19 + 7 * 59) / 16 is 27.
        checks.due("23.9 is below 24", placeOfZero(fourthAtZero(29)), Particleway.NONE);
        checks.due("26.9 is below 27", placeOfZero(fourthAtZero(18)), 7);
        checks.due("27 is not", placeOfZero(fourthAtZero(19)), Particleway.NONE);
    }

    // ---- beliefs

    private void beliefsAtFirst() {
        Particleway one = new Particleway();
        one.wall(0, 0, true);
        one.wall(7, 7, true);
        one.wall(4, 3, true);
        one.wall(4, 4, true);
        one.wall(4, 4, false);
        one.spread(64);
        for (int cell = 0; cell < 64; cell++) {
            boolean isWall = cell == 0 || cell == 63 || cell == 28;
            checks.due("belief " + cell, one.belief(cell % 8, cell / 8), isWall ? 0 : 1);
            checks.due("beliefAnew " + cell, one.beliefAnew(cell % 8, cell / 8), isWall ? 0 : 1);
        }
    }

    private void beliefsAtEdges() {
        long[] along = {3, 15, 16, 16, 16, 16, 16, 30};
        for (int direction = 0; direction < 4; direction++) {
            Particleway one = Fields.spreadOut(new Particleway(), 8);
            one.drive(direction);
            for (int cell = 0; cell < 64; cell++) {
                int place = direction % 2 == 0 ? cell % 8 : cell / 8;
                long due = along[direction < 2 ? place : 7 - place];
                checks.due("belief " + cell + ", driven " + direction, one.belief(cell % 8, cell / 8), due);
                checks.due("beliefAnew " + cell + ", driven " + direction, one.beliefAnew(cell % 8, cell / 8), due);
            }
            Particleway alone = Fields.spreadOut(Fields.only(27), 8);
            alone.drive(direction);
            checks.due("belief amid walls, driven " + direction, alone.belief(3, 3), 16);
            checks.due("beliefAnew amid walls, driven " + direction, alone.beliefAnew(3, 3), 16);
            checks.due("belief of a wall, driven " + direction, alone.belief(4, 3), 0);
            checks.due("beliefAnew of a wall, driven " + direction, alone.beliefAnew(4, 3), 0);
        }
    }

    private void beliefsWeighed() {
        long[][] due = {{0, 0, 0, 0, 0, 1, 3, 8}, {0, 0, 1, 3, 8, 3, 1, 0}, {8, 3, 1, 0, 0, 0, 0, 0}};
        int[] readings = {0, 3, 7};
        for (int i = 0; i < 3; i++) {
            Particleway one = Fields.spreadOut(Fields.row(0, 0, 7), 8);
            one.read(0, readings[i]);
            for (int x = 0; x < 8; x++) {
                checks.due("belief, read " + readings[i] + ", " + x, one.belief(x, 0), due[i][x]);
                checks.due("beliefAnew, read " + readings[i] + ", " + x, one.beliefAnew(x, 0), due[i][x]);
                checks.due("belief of a wall, read " + readings[i], one.belief(x, 1), 0);
                checks.due("beliefAnew of a wall, read " + readings[i], one.beliefAnew(x, 1), 0);
            }
        }
    }

    private void dueBeliefs(String when, Particleway one, long... due) {
        for (int x = 0; x < due.length; x++) {
            checks.due(when + ": belief " + x, one.belief(x, 0), due[x]);
            checks.due(when + ": beliefAnew " + x, one.beliefAnew(x, 0), due[x]);
        }
    }

    private void allBeliefsGone() {
        Particleway one = Fields.spreadOut(Fields.pair(), 8);
        one.drive(0);
        dueBeliefs("driven", one, 3, 29, 0);
        one.read(0, 4);
        dueBeliefs("all are 0", one, 1, 1, 0);
        one.read(0, 3);
        dueBeliefs("one is above 0", one, 1, 0, 0);
        one.read(2, 7);
        dueBeliefs("all are 0 once more", one, 1, 1, 0);
        one.read(2, 3);
        dueBeliefs("the other is above 0", one, 0, 1, 0);
        one.read(0, 3);
        dueBeliefs("all are 0, each by one of two readings", one, 1, 1, 0);
    }

    private void greatestBelief() {
        Particleway driven = Fields.spreadOut(Fields.single(), 8);
        for (int i = 0; i < 10; i++) {
            driven.drive(1);
        }
        dueBeliefs("driven to the most", driven, MOST_BELIEVED);
        driven.drive(1);
        dueBeliefs("halved four times", driven, MOST_BELIEVED);
        Particleway read = Fields.spreadOut(Fields.single(), 8);
        read.drive(1);
        for (int i = 0; i < 12; i++) {
            read.read(0, 0);
        }
        dueBeliefs("read to the most", read, MOST_BELIEVED);
        read.read(0, 0);
        dueBeliefs("halved three times", read, MOST_BELIEVED);
        read.read(0, 1);
        dueBeliefs("halved twice", read, 3 * MOST_BELIEVED / 4);
        Particleway two = Fields.spreadOut(Fields.only(0, 2), 8);
        for (int i = 0; i < 10; i++) {
            two.drive(0);
        }
        dueBeliefs("the most twice, not in sum", two, MOST_BELIEVED, 0, MOST_BELIEVED);
        Particleway above = oneAboveTheMost();
        checks.due("halved if it is above by 1", above.belief(2, 7), MOST_BELIEVED / 2);
        checks.due("halved anew if it is above by 1", above.beliefAnew(2, 7), MOST_BELIEVED / 2);
        checks.due("the least of 3, halved", above.belief(0, 7), 1);
        checks.due("one of 12, halved", above.belief(1, 7), 6);
    }

    /** The cells 56 and 58 alone keep a belief: of 1, and of 2 to the 36th; then 58 gets 16 times its own, and 1. */
    private static Particleway oneAboveTheMost() {
        Particleway one = Fields.only(16, 24, 32, 40, 48, 56, 57, 58, 50, 42, 34, 26, 18);
        one.spread(8);
        one.read(3, 7);
        for (int i = 0; i < 12; i++) {
            one.read(0, 0);
        }
        one.drive(0);
        return one;
    }

    private void halvedBehindBoth() {
        Particleway driven = Fields.spreadOut(Fields.single(), 8);
        for (int i = 0; i < 200; i++) {
            driven.drive(0);
        }
        dueBeliefs("behind driving", driven, MOST_BELIEVED);
        Particleway read = Fields.spreadOut(Fields.single(), 8);
        for (int i = 0; i < 200; i++) {
            read.read(0, 0);
        }
        // The most is 2 to the 40th: 8 to the 14th is halved twice, 8 times the most three times.
        dueBeliefs("behind reading", read, MOST_BELIEVED);
    }

    private void halvedRoundedDown() {
        Particleway one = Fields.spreadOut(Fields.pair(), 8);
        for (int i = 0; i < 25; i++) {
            one.read(2, 2);
        }
        dueBeliefs("3 to the 25th", one, 1, 847288609443L);
        one.read(2, 2);
        // 3 to the 26th is 2541865828329.
        dueBeliefs("halved twice", one, 0, 635466457082L);
        checks.due("none of 0", one.best(1), Particleway.NONE);
        Particleway two = Fields.spreadOut(Fields.pair(), 8);
        long[] least = {19683, 29524, 5535, 1037};
        long[] greatest = {137438933789L, 1099511598251L, 1099511622239L, 1099511626736L};
        for (int i = 1; i <= 12; i++) {
            two.drive(0);
            if (i >= 9) {
                dueBeliefs("driven " + i + " times", two, least[i - 9], greatest[i - 9]);
            }
        }
    }
}
