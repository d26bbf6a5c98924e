import java.io.IOException;
import java.util.function.Supplier;

/** A test for each sentence of the document's promises, and of what it says of exceptions, that names a boundary case. */
public final class PromiseBoundsTest {
    private static final int MIN = Integer.MIN_VALUE;
    private static final int MAX = Integer.MAX_VALUE;
    private static final int[] OUTSIDE = {-1, 8, 64, MIN, MAX};
    private static final int[] NO_DIRECTIONS = {-1, 4, MIN, MAX};

    private final Checks checks = new Checks();

    /** A call on an object that is made for it. */
    private interface CallOn {
        void run(Particleway one);
    }

    /** A call in a cell. */
    private interface CallAt {
        void run(Particleway one, int x, int y);
    }

    public static void main(String[] args) throws IOException {
        PromiseBoundsTest test = new PromiseBoundsTest();
        Sentences sentences = new Sentences(test.checks, args);
        test.holdExceptions(sentences);
        test.holdField(sentences);
        test.holdSamples(sentences);
        test.holdCells(sentences);
        test.holdBeliefs(sentences);
        test.holdSums(sentences);
        test.checks.end();
    }

    private void holdExceptions(Sentences sentences) {
        String name = "Exceptions";
        sentences.hold(name, "IndexOutOfBoundsException: there is no such cell, direction, sample or place.",
                this::noSuchThing);
        sentences.hold(name, "IllegalArgumentException: another argument is out of its range.", this::outOfRange);
        sentences.hold(name, "all methods but wall(), draw(), spread(), toRead() and sample() throw it ahead of the first "
                + "spread()", this::aheadOfSpread);
        sentences.hold(name, "If several apply, the one that is named first in the throws clause is thrown",
                this::firstOfSeveral);
        sentences.hold(name, "a call that throws changes nothing", this::nothingChanged);
        sentences.hold(name, "The constants: `NONE = -1`: There is none.", this::none);
    }

    private void holdField(Sentences sentences) {
        String name = "Promise 1: A new object";
        sentences.hold(name, "Begins with a field without walls.", this::noWallsAtFirst);
        sentences.holdAllLines(name);
        name = "Promise 2: wall";
        sentences.hold(name, "Tells that a cell is a wall, or free.", this::wallOrFree);
        sentences.hold(name, "Returns whether it was a wall.", this::wasAWall);
        sentences.hold(name, "Throws `IndexOutOfBoundsException` as told",
                () -> dueOfCells(Particleway::new, (one, x, y) -> one.wall(x, y, true)));
        sentences.hold(name, "Throws `IllegalStateException` if samples were spread", this::wallWhenSpread);
        sentences.hold(name, "or no cell would be free", this::lastFreeCell);
        sentences.holdAllLines(name);
        name = "Promise 3: draw";
        sentences.hold(name, "Sets the number from which it is drawn.", this::numberSet);
        sentences.hold(name, "- `x`: 1 to 65536", this::numbersInRange);
        sentences.hold(name, "Returns the one before.", this::numberBefore);
        sentences.hold(name, "Throws `IllegalArgumentException` if x is out of range", this::numbersOutOfRange);
        sentences.holdAllLines(name);
        name = "Promise 7: toRead";
        sentences.hold(name, "Returns what is to be read.", this::leastAndMostToRead);
        sentences.hold(name, "Returns the steps; NONE in a wall.", this::noneInAWall);
        sentences.hold(name, "Throws `IndexOutOfBoundsException` as told, of the cell or the direction",
                this::toReadOutside);
        sentences.holdAllLines(name);
    }

    private void holdSamples(Sentences sentences) {
        String name = "Promise 4: spread";
        sentences.hold(name, "Spreads samples.", this::spreadAgain);
        sentences.hold(name, "- `many`: 8 to 64", this::manyInRange);
        sentences.hold(name, "Throws `IllegalArgumentException` if many is out of range", this::manyOutOfRange);
        sentences.holdAllLines(name);
        name = "Promise 5: drive";
        sentences.hold(name, "Drives.", this::drivenThreeHundredTimes);
        sentences.hold(name, "Throws `IndexOutOfBoundsException` as told, of the direction", this::driveNowhere);
        sentences.hold(name, "Throws `IllegalStateException` as told",
                () -> checks.dueThrow("drive", Checks.STATE, () -> new Particleway().drive(0)));
        sentences.hold(name, "if it was driven and read 300 times since samples were spread", this::driveNoMore);
        sentences.holdAllLines(name);
        name = "Promise 6: read";
        sentences.hold(name, "Tells a reading.", this::readThreeHundredTimes);
        sentences.hold(name, "- `reading`: 0 to 7", this::readingsInRange);
        sentences.hold(name, "Returns W.", this::returnedW);
        sentences.hold(name, "Throws `IndexOutOfBoundsException` as told, of the direction", this::readNowhere);
        sentences.hold(name, "Throws `IllegalArgumentException` if reading is out of range", this::readingsOutOfRange);
        sentences.hold(name, "Throws `IllegalStateException` as told",
                () -> checks.dueThrow("read", Checks.STATE, () -> new Particleway().read(0, 0)));
        sentences.hold(name, "if it was driven and read 300 times since samples were spread", this::readNoMore);
        sentences.holdAllLines(name);
        name = "Promise 8: samples";
        sentences.hold(name, "Returns how many samples there are.", this::leastAndMostSamples);
        sentences.hold(name, "@throws IllegalStateException as told",
                () -> checks.dueThrow("samples", Checks.STATE, () -> new Particleway().samples()));
        sentences.holdAllLines(name);
        name = "Promise 9: sample";
        sentences.hold(name, "Returns the number of the cell of a sample.", this::cellsOfSamples);
        sentences.hold(name, "- `sample`: from 0", this::firstAndLastSample);
        sentences.hold(name, "Throws `IndexOutOfBoundsException` as told", this::noSuchSample);
        sentences.hold(name, "also ahead of the first spread()", this::noSampleYet);
        sentences.holdAllLines(name);
    }

    private void holdCells(Sentences sentences) {
        String name = "Promise 10: count";
        sentences.hold(name, "Returns how many samples are in a cell.", this::leastAndMostCounted);
        holdOfCells(sentences, name, Particleway::count);
        name = "Promise 11: belief";
        sentences.hold(name, "Returns the belief of a cell.", this::leastAndMostBelief);
        holdOfCells(sentences, name, Particleway::belief);
        name = "Promise 12: beliefAnew";
        sentences.hold(name, "Returns the same, all that was driven and read being done once more", this::sameAnew);
        sentences.hold(name, "each cell fetching what comes to it", this::fetchedAtWalls);
        holdOfCells(sentences, name, Particleway::beliefAnew);
    }

    private void holdOfCells(Sentences sentences, String name, CallAt call) {
        sentences.hold(name, "Throws `IndexOutOfBoundsException` as told",
                () -> dueOfCells(() -> Fields.spreadOut(new Particleway(), 8), call));
        sentences.hold(name, "Throws `IllegalStateException` as told",
                () -> checks.dueThrow(name, Checks.STATE, () -> call.run(new Particleway(), 0, 0)));
        sentences.holdAllLines(name);
    }

    private void holdBeliefs(Sentences sentences) {
        String name = "Promise 13: mode";
        sentences.hold(name, "Returns the number of the cell with the most samples, or the greatest belief",
                this::firstAndLastMode);
        sentences.hold(name, "of alike ones the lowest", this::lowestOfAlikeModes);
        sentences.hold(name, "Throws `IllegalStateException` as told", () -> dueAheadOfSpread(
                one -> one.mode(true), one -> one.mode(false)));
        sentences.holdAllLines(name);
        name = "Promise 16: best";
        sentences.hold(name, "Returns the number of the cell that is best by beliefs, the second best, and so on",
                this::bestOnes);
        sentences.hold(name, "of alike ones the lowest first", this::lowestOfAlikeBestOnes);
        sentences.hold(name, "- `place`: from 0", this::firstAndLastPlace);
        sentences.hold(name, "Returns the cell; NONE if there are not so many with a belief above 0.", this::noSuchBest);
        sentences.hold(name, "Throws `IndexOutOfBoundsException` if place is below 0", this::placesBelow);
        sentences.hold(name, "Throws `IllegalStateException` as told", () -> dueAheadOfSpread(
                one -> one.best(0), one -> one.best(63), one -> one.best(64), one -> one.best(MAX)));
        sentences.holdAllLines(name);
        name = "Promise 17: doubt";
        sentences.hold(name, "Returns the doubt of the last reading", this::lastDoubt);
        sentences.hold(name, "0 without one since samples were spread", this::noDoubt);
        sentences.hold(name, "@throws IllegalStateException as told", () -> dueAheadOfSpread(one -> one.doubt()));
        sentences.holdAllLines(name);
    }

    private void holdSums(Sentences sentences) {
        String name = "Promise 14: mean";
        sentences.hold(name, "Returns the mean of a coordinate by samples, or by beliefs, in hundredths",
                this::leastAndMostMean);
        sentences.hold(name, "rounded down", this::meanRoundedDown);
        sentences.hold(name, "Throws `IllegalStateException` as told", () -> dueAheadOfSpread(
                one -> one.mean(true, true), one -> one.mean(true, false),
                one -> one.mean(false, true), one -> one.mean(false, false)));
        sentences.holdAllLines(name);
        name = "Promise 15: share";
        sentences.hold(name, "Returns which share of samples, or of beliefs, is in a region, in thousandths",
                this::leastAndMostShare);
        sentences.hold(name, "rounded down", this::shareRoundedDown);
        sentences.hold(name, "- `x`: the least x of the region", () -> dueSharesWithin(true));
        sentences.hold(name, "- `y`: the least y", () -> dueSharesWithin(false));
        sentences.hold(name, "- `toX`: x to 7: the greatest x", this::leastAndMostToX);
        sentences.hold(name, "- `toY`: y to 7", this::leastAndMostToY);
        sentences.hold(name, "Throws `IndexOutOfBoundsException` as told, of the cell x, y", () -> dueOfCells(
                () -> Fields.spreadOut(new Particleway(), 8), (one, x, y) -> one.share(x, y, 7, 7, x > y)));
        sentences.hold(name, "Throws `IllegalArgumentException` if toX or toY is out of range", this::noSuchRegion);
        sentences.hold(name, "Throws `IllegalStateException` as told", () -> dueAheadOfSpread(
                one -> one.share(0, 0, 7, 7, true), one -> one.share(7, 7, 7, 7, false)));
        sentences.holdAllLines(name);
    }

    // ---- what several tests share

    private void dueOfCells(Supplier<Particleway> made, CallAt call) {
        Particleway one = made.get();
        for (int cell = 0; cell < 64; cell++) {
            int x = cell % 8;
            int y = cell / 8;
            if (cell < 63) {
                checks.dueThrow("cell " + x + " " + y, Checks.NOTHING, () -> call.run(one, x, y));
            }
        }
        for (int out : OUTSIDE) {
            for (int in = 0; in < 8; in++) {
                int other = in;
                checks.dueThrow("cell " + out + " " + in, Checks.INDEX, () -> call.run(one, out, other));
                checks.dueThrow("cell " + in + " " + out, Checks.INDEX, () -> call.run(one, other, out));
            }
            for (int other : OUTSIDE) {
                checks.dueThrow("cell " + out + " " + other, Checks.INDEX, () -> call.run(one, out, other));
            }
        }
    }

    private void dueAheadOfSpread(CallOn... calls) {
        for (CallOn call : calls) {
            Particleway one = new Particleway();
            checks.dueThrow("ahead of spread", Checks.STATE, () -> call.run(one));
            checks.dueThrow("ahead of spread, once more", Checks.STATE, () -> call.run(one));
            checks.dueThrow("spread too many", Checks.ARGUMENT, () -> one.spread(65));
            checks.dueThrow("a spread that threw is none", Checks.STATE, () -> call.run(one));
            one.spread(8);
            checks.dueThrow("when spread", Checks.NOTHING, () -> call.run(one));
        }
    }

    /** Two walls, samples that were driven and read, and beliefs that differ. */
    private static Particleway told() {
        Particleway one = new Particleway();
        one.wall(2, 2, true);
        one.wall(5, 0, true);
        one.spread(20);
        one.drive(0);
        one.read(0, 1);
        one.drive(1);
        one.read(3, 4);
        return one;
    }

    private static Particleway unspread() {
        Particleway one = new Particleway();
        one.wall(2, 2, true);
        one.draw(99);
        return one;
    }

    /** Spread in a single cell, and told so many times, by turns. */
    private static Particleway toldSoOften(int times) {
        Particleway one = Fields.spreadOut(Fields.single(), 8);
        for (int i = 0; i < times; i++) {
            if (i % 2 == 0) {
                one.drive(i % 4);
            } else {
                one.read(i % 4, i % 3);
            }
        }
        return one;
    }

    // ---- exceptions

    private void noSuchThing() {
        CallOn[] calls = {
            one -> one.toRead(8, 0, 0), one -> one.toRead(0, 8, 0), one -> one.toRead(-1, 1, 0),
            one -> one.toRead(0, 0, 4), one -> one.toRead(0, 0, -1), one -> one.wall(8, 0, true),
            one -> one.count(0, 8), one -> one.belief(-1, 3), one -> one.beliefAnew(3, -1),
            one -> one.share(8, 0, 8, 0, true), one -> one.drive(4), one -> one.read(-1, 0),
            one -> one.sample(-1), one -> one.sample(64), one -> one.best(-1), one -> one.best(MIN),
        };
        for (int i = 0; i < calls.length; i++) {
            CallOn call = calls[i];
            checks.dueThrow("call " + i, Checks.INDEX, () -> call.run(told()));
        }
    }

    private void outOfRange() {
        CallOn[] calls = {
            one -> one.draw(0), one -> one.draw(65537), one -> one.draw(MIN), one -> one.spread(7),
            one -> one.spread(65), one -> one.spread(MAX), one -> one.read(0, -1), one -> one.read(3, 8),
            one -> one.share(1, 1, 0, 1, true), one -> one.share(1, 1, 1, 0, true),
            one -> one.share(1, 1, 8, 1, false), one -> one.share(1, 1, 1, 8, false),
        };
        for (int i = 0; i < calls.length; i++) {
            CallOn call = calls[i];
            checks.dueThrow("call " + i, Checks.ARGUMENT, () -> call.run(told()));
        }
    }

    private void aheadOfSpread() {
        dueAheadOfSpread(
                one -> one.drive(0), one -> one.read(0, 0), one -> one.samples(), one -> one.count(0, 0),
                one -> one.belief(0, 0), one -> one.beliefAnew(0, 0), one -> one.mode(true), one -> one.mode(false),
                one -> one.mean(true, false), one -> one.mean(false, true), one -> one.share(0, 0, 7, 7, true),
                one -> one.share(0, 0, 7, 7, false), one -> one.best(0), one -> one.doubt());
        Particleway one = new Particleway();
        checks.dueThrow("wall ahead of spread", Checks.NOTHING, () -> one.wall(0, 0, true));
        checks.dueThrow("draw ahead of spread", Checks.NOTHING, () -> one.draw(1));
        checks.dueThrow("toRead ahead of spread", Checks.NOTHING, () -> one.toRead(0, 0, 0));
        checks.dueThrow("sample ahead of spread", Checks.INDEX, () -> one.sample(0));
        checks.dueThrow("spread", Checks.NOTHING, () -> one.spread(8));
    }

    private void firstOfSeveral() {
        Particleway bare = new Particleway();
        Particleway spread = told();
        checks.dueThrow("wall outside, when spread", Checks.INDEX, () -> spread.wall(8, 0, true));
        checks.dueThrow("drive nowhere, ahead of spread", Checks.INDEX, () -> bare.drive(4));
        checks.dueThrow("read nowhere and too much, ahead of spread", Checks.INDEX, () -> bare.read(4, 8));
        checks.dueThrow("read nowhere and too much", Checks.INDEX, () -> spread.read(-1, -1));
        checks.dueThrow("read nowhere, ahead of spread", Checks.INDEX, () -> bare.read(4, 0));
        checks.dueThrow("read too much, ahead of spread", Checks.ARGUMENT, () -> bare.read(0, 8));
        checks.dueThrow("count outside, ahead of spread", Checks.INDEX, () -> bare.count(0, 8));
        checks.dueThrow("belief outside, ahead of spread", Checks.INDEX, () -> bare.belief(8, 0));
        checks.dueThrow("beliefAnew outside, ahead of spread", Checks.INDEX, () -> bare.beliefAnew(-1, 0));
        checks.dueThrow("share outside, wrong to, ahead of spread", Checks.INDEX, () -> bare.share(8, 0, 7, 8, true));
        checks.dueThrow("share outside, wrong to", Checks.INDEX, () -> spread.share(0, 8, 8, 7, true));
        checks.dueThrow("share outside, ahead of spread", Checks.INDEX, () -> bare.share(-1, 0, 7, 7, false));
        checks.dueThrow("share with wrong toX, ahead of spread", Checks.ARGUMENT, () -> bare.share(0, 0, 8, 7, true));
        checks.dueThrow("share with wrong toY, ahead of spread", Checks.ARGUMENT, () -> bare.share(0, 1, 7, 0, true));
        checks.dueThrow("best below 0, ahead of spread", Checks.INDEX, () -> bare.best(-1));
        Particleway last = Fields.single();
        checks.dueThrow("wall outside, with a last free cell", Checks.INDEX, () -> last.wall(0, 8, true));
        Particleway full = toldSoOften(300);
        checks.dueThrow("drive nowhere the 301st", Checks.INDEX, () -> full.drive(-1));
        checks.dueThrow("read nowhere the 301st", Checks.INDEX, () -> full.read(4, 8));
        checks.dueThrow("read too much the 301st", Checks.ARGUMENT, () -> full.read(0, 8));
    }

    private void nothingChanged() {
        CallOn[] anytime = {
            one -> one.wall(8, 0, true), one -> one.wall(0, -1, false), one -> one.draw(0), one -> one.draw(65537),
            one -> one.spread(7), one -> one.spread(65), one -> one.drive(4), one -> one.drive(-1),
            one -> one.read(4, 0), one -> one.read(0, 8), one -> one.read(0, -1), one -> one.toRead(0, 0, 4),
            one -> one.sample(64), one -> one.sample(-1), one -> one.count(8, 0), one -> one.belief(0, 8),
            one -> one.beliefAnew(8, 8), one -> one.share(0, 8, 0, 8, true), one -> one.share(0, 0, 8, 0, true),
            one -> one.best(-1),
        };
        CallOn[] bare = {
            one -> one.drive(0), one -> one.read(0, 0), one -> one.samples(), one -> one.sample(0),
            one -> one.count(0, 0), one -> one.belief(0, 0), one -> one.beliefAnew(0, 0), one -> one.mode(true),
            one -> one.mean(true, true), one -> one.share(0, 0, 7, 7, false), one -> one.best(0), one -> one.doubt(),
        };
        CallOn[] spread = {
            one -> one.wall(0, 0, true), one -> one.wall(2, 2, false), one -> one.wall(2, 2, true),
            one -> one.wall(7, 7, false),
        };
        CallOn[] full = {one -> one.drive(0), one -> one.read(0, 0), one -> one.read(3, 7)};
        dueUnchanged("ahead of spread", PromiseBoundsTest::unspread, anytime);
        dueUnchanged("ahead of spread", PromiseBoundsTest::unspread, bare);
        dueUnchanged("with a last free cell", Fields::single, one -> one.wall(0, 0, true));
        dueUnchanged("told four times", PromiseBoundsTest::told, anytime);
        dueUnchanged("told four times", PromiseBoundsTest::told, spread);
        dueUnchanged("told 299 times", () -> toldSoOften(299), anytime);
        dueUnchanged("told 300 times", () -> toldSoOften(300), anytime);
        dueUnchanged("told 300 times", () -> toldSoOften(300), full);
    }

    /** Calls that throw, each on an object of its own, which answers then as one on which they were not. */
    private void dueUnchanged(String when, Supplier<Particleway> made, CallOn... calls) {
        String due = answers(made.get());
        for (int i = 0; i < calls.length; i++) {
            CallOn call = calls[i];
            Particleway one = made.get();
            checks.holds(when + ", call " + i + " throws", Checks.thrown(() -> call.run(one)) != Checks.NOTHING);
            checks.holds(when + ", all is as before the call " + i, answers(one).equals(due));
        }
    }

    /** What an object answers, with some 140 calls: all that it holds shows in these. */
    private static String answers(Particleway one) {
        StringBuilder text = new StringBuilder();
        for (int cell = 0; cell < 64; cell += 3) {
            int x = cell % 8;
            int y = cell / 8;
            text.append(one.toRead(x, y, 0)).append(' ').append(one.toRead(x, y, 3)).append(' ');
            append(text, () -> text.append(one.belief(x, y)));
            append(text, () -> text.append(one.beliefAnew(x, y)));
            append(text, () -> text.append(one.sample(x + y)));
        }
        append(text, () -> text.append(one.samples()));
        append(text, () -> text.append(one.doubt()));
        append(text, () -> text.append(one.draw(1)));
        append(text, () -> text.append(one.read(0, 2)));
        append(text, () -> text.append(one.doubt()));
        append(text, () -> one.drive(0));
        append(text, () -> text.append(one.beliefAnew(1, 1)));
        append(text, () -> text.append(one.wall(2, 2, true)));
        append(text, () -> one.spread(8));
        append(text, () -> text.append(one.draw(1)).append(one.belief(2, 2)));
        return text.toString();
    }

    private static void append(StringBuilder text, Checks.Call call) {
        Class<?> thrown = Checks.thrown(call);
        text.append(thrown == Checks.NOTHING ? "" : thrown.getSimpleName()).append(' ');
    }

    private void none() {
        checks.due("NONE", Particleway.NONE, -1);
        Particleway one = Fields.spreadOut(Fields.single(), 8);
        checks.due("toRead", one.toRead(1, 0, 0), -1);
        checks.due("best", one.best(1), -1);
    }

    // ---- the field, chance

    private void noWallsAtFirst() {
        Particleway one = new Particleway();
        for (int i = 0; i < 8; i++) {
            checks.due("toRead along the row " + i, one.toRead(0, i, 0), 7);
            checks.due("toRead along the column " + i, one.toRead(i, 0, 1), 7);
        }
        for (int cell = 0; cell < 64; cell++) {
            checks.holds("was no wall: " + cell, !one.wall(cell % 8, cell / 8, false));
        }
        Particleway other = new Particleway();
        other.wall(0, 0, true);
        checks.due("another object has walls of its own", one.toRead(0, 0, 0), 7);
    }

    private void wallOrFree() {
        int[] cells = {0, 7, 56, 63, 27};
        for (int cell : cells) {
            Particleway one = new Particleway();
            one.wall(cell % 8, cell / 8, true);
            for (int other = 0; other < 64; other++) {
                boolean isNone = one.toRead(other % 8, other / 8, 0) == Particleway.NONE;
                checks.holds(other + ", with a wall in " + cell, isNone == (other == cell));
            }
            one.wall(cell % 8, cell / 8, false);
            checks.due("free again: " + cell, one.toRead(cell % 8, cell / 8, 0), 7 - cell % 8);
        }
        Particleway most = Fields.only(36);
        for (int cell = 0; cell < 64; cell++) {
            checks.due("63 walls: " + cell, most.toRead(cell % 8, cell / 8, 2), cell == 36 ? 0 : Particleway.NONE);
        }
        Particleway freed = Fields.spreadOut(unbuilt(), 64);
        checks.due("all walls are gone", freed.toRead(0, 5, 0), 7);
        for (int i = 0; i < 64; i++) {
            checks.due("drawn of 64 free cells, " + i, freed.sample(i), Fields.after(1, i + 1) % 64);
        }
    }

    private static Particleway unbuilt() {
        Particleway one = Fields.only(36);
        for (int cell = 0; cell < 64; cell++) {
            one.wall(cell % 8, cell / 8, false);
        }
        return one;
    }

    private void wasAWall() {
        Particleway one = new Particleway();
        boolean[] told = {false, true, true, false, false, true};
        boolean was = false;
        for (boolean is : told) {
            checks.holds("it was " + was, one.wall(7, 7, is) == was);
            was = is;
        }
        checks.holds("another was not", !one.wall(6, 7, false));
    }

    private void wallWhenSpread() {
        Particleway one = new Particleway();
        one.wall(1, 1, true);
        checks.dueThrow("spread too few", Checks.ARGUMENT, () -> one.spread(7));
        checks.dueThrow("a wall, nothing spread yet", Checks.NOTHING, () -> one.wall(2, 1, true));
        one.spread(8);
        for (int times = 0; times < 2; times++) {
            checks.dueThrow("a wall", Checks.STATE, () -> one.wall(0, 0, true));
            checks.dueThrow("a free cell", Checks.STATE, () -> one.wall(1, 1, false));
            checks.dueThrow("a wall that is one", Checks.STATE, () -> one.wall(1, 1, true));
            checks.dueThrow("a free cell that is one", Checks.STATE, () -> one.wall(0, 0, false));
            one.spread(64);
        }
    }

    private void lastFreeCell() {
        for (int cell = 0; cell < 64; cell += 21) {
            Particleway one = Fields.only(cell);
            int x = cell % 8;
            int y = cell / 8;
            checks.dueThrow("a wall in the last " + cell, Checks.STATE, () -> one.wall(x, y, true));
            checks.holds("the last is free", !one.wall(x, y, false));
            checks.holds("a wall beside it may be told again", one.wall(7 - x, y, true));
            checks.dueThrow("a wall in the last, once more", Checks.STATE, () -> one.wall(x, y, true));
            checks.holds("another is freed", one.wall(7 - x, y, false));
            checks.holds("the last is free, and is not the last", !one.wall(x, y, true));
            checks.dueThrow("the other is the last", Checks.STATE, () -> one.wall(7 - x, y, true));
            checks.due("the other is free", one.toRead(7 - x, y, 0), 0);
        }
    }

    private void numberSet() {
        Particleway one = new Particleway();
        one.draw(5000);
        one.spread(8);
        checks.due("drawn from 5000", one.sample(0), Fields.next(5000) % 64);
        one.draw(5000);
        one.spread(8);
        checks.due("drawn from 5000 once more", one.sample(7), Fields.after(5000, 8) % 64);
    }

    private void numbersInRange() {
        for (int x : new int[] {1, 2, 65535, 65536}) {
            Particleway one = new Particleway();
            checks.due("draw " + x, one.draw(x), 1);
            one.spread(8);
            checks.due("drawn from " + x, one.draw(1), Fields.after(x, 8));
        }
    }

    private void numberBefore() {
        Particleway one = new Particleway();
        checks.due("the one at first", one.draw(65536), 1);
        checks.due("the greatest", one.draw(1), 65536);
        checks.due("the least that is set", one.draw(300), 1);
        one.spread(8);
        checks.due("what was drawn last", one.draw(1), Fields.after(300, 8));
        Fields.setDraw(one, 8, 0);
        one.spread(8);
        checks.due("0, if it was drawn last", one.draw(1), 0);
    }

    private void numbersOutOfRange() {
        for (int out : new int[] {0, 65537, 65538, -1, -65536, MIN, MAX}) {
            Particleway one = new Particleway();
            checks.dueThrow("draw " + out, Checks.ARGUMENT, () -> one.draw(out));
            checks.due("the number is as it was", one.draw(2), 1);
        }
    }

    private void leastAndMostToRead() {
        Particleway one = new Particleway();
        checks.due("across the field to the right", one.toRead(0, 0, 0), 7);
        checks.due("across the field downwards", one.toRead(0, 0, 1), 7);
        checks.due("across the field to the left", one.toRead(7, 7, 2), 7);
        checks.due("across the field upwards", one.toRead(7, 7, 3), 7);
        checks.due("at the right edge", one.toRead(7, 0, 0), 0);
        checks.due("at the lower edge", one.toRead(0, 7, 1), 0);
        checks.due("at the left edge", one.toRead(0, 7, 2), 0);
        checks.due("at the upper edge", one.toRead(7, 0, 3), 0);
        Particleway alone = Fields.only(27);
        for (int direction = 0; direction < 4; direction++) {
            checks.due("amid walls", alone.toRead(3, 3, direction), 0);
        }
    }

    private void noneInAWall() {
        for (int cell = 0; cell < 64; cell++) {
            Particleway one = new Particleway();
            one.wall(cell % 8, cell / 8, true);
            for (int direction = 0; direction < 4; direction++) {
                checks.due("in a wall " + cell, one.toRead(cell % 8, cell / 8, direction), Particleway.NONE);
            }
            one.spread(8);
            checks.due("in a wall, when spread " + cell, one.toRead(cell % 8, cell / 8, 0), Particleway.NONE);
        }
    }

    private void toReadOutside() {
        dueOfCells(Particleway::new, (one, x, y) -> one.toRead(x, y, 0));
        dueOfCells(PromiseBoundsTest::told, (one, x, y) -> one.toRead(x, y, 3));
        for (int out : NO_DIRECTIONS) {
            checks.dueThrow("direction " + out, Checks.INDEX, () -> new Particleway().toRead(3, 3, out));
            checks.dueThrow("direction in a wall " + out, Checks.INDEX, () -> told().toRead(2, 2, out));
        }
    }

    // ---- samples

    private void spreadAgain() {
        Particleway one = toldSoOften(20);
        one.spread(64);
        checks.due("more samples", one.samples(), 64);
        one.spread(8);
        checks.due("fewer samples", one.samples(), 8);
        checks.dueThrow("the ninth is gone", Checks.INDEX, () -> one.sample(8));
    }

    private void manyInRange() {
        for (int many : new int[] {8, 9, 63, 64}) {
            Particleway one = new Particleway();
            checks.dueThrow("spread " + many, Checks.NOTHING, () -> one.spread(many));
            checks.due("spread " + many, one.samples(), many);
        }
    }

    private void manyOutOfRange() {
        for (int out : new int[] {7, 65, 0, -1, -8, MIN, MAX}) {
            Particleway one = new Particleway();
            checks.dueThrow("spread " + out, Checks.ARGUMENT, () -> one.spread(out));
            checks.dueThrow("nothing is spread", Checks.STATE, () -> one.samples());
            one.spread(8);
            checks.dueThrow("spread again " + out, Checks.ARGUMENT, () -> one.spread(out));
            checks.due("the old ones stay", one.samples(), 8);
        }
    }

    private void drivenThreeHundredTimes() {
        Particleway one = Fields.spreadOut(Fields.pair(), 8);
        for (int i = 1; i <= 300; i++) {
            checks.dueThrow("drive, time " + i, Checks.NOTHING, () -> one.drive(0));
        }
        checks.due("all are at the end", one.count(1, 0), 8);
    }

    private void driveNowhere() {
        for (int out : NO_DIRECTIONS) {
            checks.dueThrow("drive " + out, Checks.INDEX, () -> told().drive(out));
            checks.dueThrow("drive ahead of spread " + out, Checks.INDEX, () -> new Particleway().drive(out));
        }
        for (int in = 0; in < 4; in++) {
            int direction = in;
            checks.dueThrow("drive " + in, Checks.NOTHING, () -> told().drive(direction));
        }
    }

    private void driveNoMore() {
        dueNoMore(one -> one.drive(0));
    }

    private void readNoMore() {
        dueNoMore(one -> one.read(0, 0));
    }

    /** Driven and read 300 times in all: by turns, all by driving, all by reading, and one of both at the end. */
    private void dueNoMore(CallOn call) {
        Particleway turns = toldSoOften(299);
        checks.dueThrow("time 300, by turns", Checks.NOTHING, () -> call.run(turns));
        checks.dueThrow("time 301, by turns", Checks.STATE, () -> call.run(turns));
        checks.dueThrow("time 301, once more", Checks.STATE, () -> call.run(turns));
        turns.spread(8);
        checks.dueThrow("time 1, spread again", Checks.NOTHING, () -> call.run(turns));
        for (int first = 0; first <= 300; first += 150) {
            Particleway one = Fields.spreadOut(Fields.single(), 8);
            for (int i = 0; i < 300; i++) {
                if (i < first) {
                    one.drive(0);
                } else {
                    one.read(0, 0);
                }
            }
            checks.dueThrow("time 301, " + first + " of them driven", Checks.STATE, () -> call.run(one));
        }
        Particleway refused = toldSoOften(298);
        checks.dueThrow("a wrong direction", Checks.INDEX, () -> refused.drive(4));
        checks.dueThrow("a wrong reading", Checks.ARGUMENT, () -> refused.read(0, 8));
        checks.dueThrow("too many to spread", Checks.ARGUMENT, () -> refused.spread(65));
        checks.dueThrow("time 299: a call that threw does not count", Checks.NOTHING, () -> call.run(refused));
        checks.dueThrow("time 300", Checks.NOTHING, () -> call.run(refused));
        checks.dueThrow("time 301", Checks.STATE, () -> call.run(refused));
        Particleway asked = toldSoOften(300);
        asked.spread(9);
        for (int i = 1; i < 100; i++) {
            checks.dueThrow("time " + i + ", spread again", Checks.NOTHING, () -> call.run(asked));
        }
    }

    private void readThreeHundredTimes() {
        Particleway one = Fields.spreadOut(Fields.single(), 8);
        for (int i = 1; i <= 300; i++) {
            checks.due("W, time " + i, one.read(0, 0), i == 1 ? 64 : 96);
        }
    }

    private void readingsInRange() {
        int[] due = {64, 24, 8, 0, 0, 0, 0, 0};
        for (int reading = 0; reading < 8; reading++) {
            Particleway one = Fields.spreadOut(Fields.single(), 8);
            checks.due("read " + reading, one.read(0, reading), due[reading]);
        }
    }

    private void returnedW() {
        checks.due("the most", Fields.spreadOut(Fields.single(), 64).read(0, 0), 512);
        checks.due("none", Fields.spreadOut(Fields.single(), 64).read(0, 7), 0);
        checks.due("1", Fields.spreadOut(Fields.pair(), 8).read(0, 3), 1);
        checks.due("of seven by 8 and one by 3", Fields.spreadOut(Fields.pair(), 8).read(0, 0), 59);
        // That of the samples that are there when it is read, not of those drawn anew.
        Particleway one = Fields.spreadOut(Fields.single(), 64);
        checks.due("of 64", one.read(0, 1), 192);
        checks.due("of 12", one.read(0, 2), 12);
        checks.due("of 12 again", one.read(0, 3), 0);
        checks.due("of 8", one.read(0, 0), 64);
    }

    private void readNowhere() {
        for (int out : NO_DIRECTIONS) {
            for (int reading = -1; reading <= 8; reading++) {
                int read = reading;
                checks.dueThrow("read " + out + " " + read, Checks.INDEX, () -> told().read(out, read));
                checks.dueThrow("read ahead of spread " + out, Checks.INDEX, () -> new Particleway().read(out, read));
            }
        }
        for (int in = 0; in < 4; in++) {
            int direction = in;
            checks.dueThrow("read " + in, Checks.NOTHING, () -> told().read(direction, 0));
        }
    }

    private void readingsOutOfRange() {
        for (int out : new int[] {-1, 8, 9, MIN, MAX}) {
            for (int in = 0; in < 4; in++) {
                int direction = in;
                checks.dueThrow("read " + in + " " + out, Checks.ARGUMENT, () -> told().read(direction, out));
                checks.dueThrow("read ahead of spread " + in + " " + out, Checks.ARGUMENT,
                        () -> new Particleway().read(direction, out));
            }
        }
    }

    private void leastAndMostSamples() {
        checks.due("least spread", Fields.spreadOut(new Particleway(), 8).samples(), 8);
        checks.due("most spread", Fields.spreadOut(new Particleway(), 64).samples(), 64);
        Particleway none = Fields.spreadOut(Fields.single(), 64);
        none.drive(0);
        checks.due("driven", none.samples(), 64);
        none.read(0, 7);
        checks.due("least anew", none.samples(), 8);
        Particleway most = Fields.spreadOut(new Particleway(), 64);
        most.read(0, 3);
        checks.due("most anew", most.samples(), 64);
    }

    private void cellsOfSamples() {
        Particleway one = new Particleway();
        Fields.setDraw(one, 1, 0);
        one.spread(8);
        checks.due("the lowest cell", one.sample(0), 0);
        Fields.setDraw(one, 1, 63);
        one.spread(8);
        checks.due("the highest cell", one.sample(0), 63);
    }

    private void firstAndLastSample() {
        for (int many = 8; many <= 64; many += 28) {
            Particleway one = Fields.spreadOut(new Particleway(), many);
            checks.due("the first of " + many, one.sample(0), 149 % 64);
            checks.due("the last of " + many, one.sample(many - 1), Fields.after(1, many) % 64);
        }
    }

    private void noSuchSample() {
        for (int many = 8; many <= 64; many += 28) {
            Particleway one = Fields.spreadOut(new Particleway(), many);
            for (int out : new int[] {-1, many, many + 1, MIN, MAX}) {
                checks.dueThrow("sample " + out + " of " + many, Checks.INDEX, () -> one.sample(out));
            }
        }
        Particleway more = Fields.spreadOut(Fields.pair(), 8);
        checks.dueThrow("the ninth of eight", Checks.INDEX, () -> more.sample(8));
        more.read(0, 0);
        checks.dueThrow("the last of sixteen anew", Checks.NOTHING, () -> more.sample(15));
        checks.dueThrow("one behind sixteen anew", Checks.INDEX, () -> more.sample(16));
        more.read(0, 7);
        checks.dueThrow("the last of eight anew", Checks.NOTHING, () -> more.sample(7));
        checks.dueThrow("one behind eight anew", Checks.INDEX, () -> more.sample(8));
    }

    private void noSampleYet() {
        for (int sample : new int[] {0, 1, 7, 63, 64, -1, MIN, MAX}) {
            checks.dueThrow("sample " + sample, Checks.INDEX, () -> new Particleway().sample(sample));
        }
        Particleway one = new Particleway();
        checks.dueThrow("spread too few", Checks.ARGUMENT, () -> one.spread(7));
        checks.dueThrow("sample behind that", Checks.INDEX, () -> one.sample(0));
    }

    // ---- cells

    private void leastAndMostCounted() {
        Particleway one = Fields.spreadOut(Fields.only(63), 64);
        checks.due("all", one.count(7, 7), 64);
        checks.due("none, in a wall", one.count(6, 7), 0);
        checks.due("none, in the first cell", one.count(0, 0), 0);
        Particleway far = Fields.gathered(Fields.pair(), 64, 0, 1);
        checks.due("none, in a free cell", far.count(0, 0), 0);
        checks.due("all in the other", far.count(1, 0), 64);
        far.read(0, 0);
        checks.due("as many as are left", far.count(1, 0), 12);
    }

    private void leastAndMostBelief() {
        Particleway one = Fields.spreadOut(Fields.only(63), 8);
        checks.due("of a free cell", one.belief(7, 7), 1);
        checks.due("of a wall", one.belief(0, 0), 0);
        for (int i = 0; i < 30; i++) {
            one.drive(0);
        }
        checks.due("the most", one.belief(7, 7), 1099511627776L);
        one.read(0, 7);
        checks.due("as when spread", one.belief(7, 7), 1);
        checks.due("of a wall still", one.belief(0, 0), 0);
    }

    private void sameAnew() {
        Particleway one = Fields.spreadOut(Fields.pair(), 8);
        dueSame("nothing told", one);
        for (int i = 1; i <= 36; i++) {
            if (i % 10 == 5) {
                one.read(0, 7);
                checks.due("begun again", one.beliefAnew(0, 0), 1);
            } else {
                one.drive(i % 3);
            }
            dueSame("told " + i + " times", one);
        }
        Particleway full = Fields.spreadOut(new Particleway(), 64);
        for (int i = 0; i < 300; i++) {
            if (i % 3 == 2) {
                full.read(i % 4, i % 8);
            } else {
                full.drive(i % 4);
            }
        }
        dueSame("told 300 times", full);
        dueSame("told 300 times, asked again", full);
        Particleway last = toldSoOften(299);
        checks.holds("much is believed", last.beliefAnew(0, 0) > 1);
        last.read(0, 7);
        checks.due("also the last of 300 is done once more", last.beliefAnew(0, 0), 1);
        full.spread(8);
        dueSame("spread again", full);
        full.drive(2);
        dueSame("told once, spread again", full);
        checks.due("only what was told since", full.beliefAnew(0, 0), 30);
        Particleway halved = Fields.spreadOut(Fields.single(), 8);
        for (int i = 0; i < 200; i++) {
            halved.drive(0);
        }
        checks.due("halved as often", halved.beliefAnew(0, 0), 1099511627776L);
    }

    /** In the two first cells, and in some of each row. */
    private void dueSame(String when, Particleway one) {
        for (int cell : new int[] {0, 1, 2, 7, 63}) {
            checks.due(when + ", cell " + cell, one.beliefAnew(cell % 8, cell / 8), one.belief(cell % 8, cell / 8));
        }
    }

    /** A wall in the middle of a row: its cells fetch 3, 15 or 30 of 16 at the ends. */
    private void fetchedAtWalls() {
        long[] right = {3, 15, 16, 30, 0, 3, 15, 30};
        long[] left = {30, 16, 15, 3, 0, 30, 15, 3};
        for (int x = 0; x < 8; x++) {
            Particleway one = Fields.only(24, 25, 26, 27, 29, 30, 31);
            one.spread(8);
            one.drive(0);
            checks.due("driven to the right, " + x, one.beliefAnew(x, 3), right[x]);
            one.spread(8);
            one.drive(2);
            checks.due("driven to the left, " + x, one.beliefAnew(x, 3), left[x]);
            one.spread(8);
            one.drive(1);
            checks.due("driven where no step leads on, " + x, one.beliefAnew(x, 3), x == 4 ? 0 : 16);
        }
    }

    // ---- the mode, the best ones, the doubt

    private void firstAndLastMode() {
        for (int cell = 0; cell < 64; cell += 63) {
            Particleway one = Fields.spreadOut(Fields.only(cell), 8);
            checks.due("by samples", one.mode(true), cell);
            checks.due("by beliefs", one.mode(false), cell);
        }
        Particleway two = Fields.spreadOut(Fields.pair(), 8);
        two.drive(0);
        checks.due("the greater belief behind a lesser", two.mode(false), 1);
        two.spread(8);
        two.drive(2);
        checks.due("the greater belief ahead of a lesser", two.mode(false), 0);
        // Samples 1 1 1 0 1 1 1 1.
        two.draw(1);
        two.spread(8);
        checks.due("seven samples behind one", two.mode(true), 1);
        checks.due("not by beliefs", two.mode(false), 0);
    }

    private void lowestOfAlikeModes() {
        Particleway one = Fields.spreadOut(new Particleway(), 8);
        checks.due("all beliefs are 1", one.mode(false), 0);
        checks.due("eight cells with a sample each", one.mode(true), 1);
        Particleway walled = new Particleway();
        walled.wall(0, 0, true);
        walled.wall(1, 0, true);
        walled.spread(8);
        checks.due("the lowest that is free", walled.mode(false), 2);
        Particleway half = Fields.pair();
        half.draw(firstWithFourAtZero());
        half.spread(8);
        checks.due("four and four", half.count(0, 0), half.count(1, 0));
        checks.due("the lower of two", half.mode(true), 0);
    }

    private static int firstWithFourAtZero() {
        for (int x = 1; x < 65537; x++) {
            int odd = 0;
            for (int draws = 1; draws <= 8; draws++) {
                odd += Fields.after(x, draws) % 2;
            }
            if (odd == 4) {
                return x;
            }
        }
        throw new IllegalStateException("no such number");
    }

    private void bestOnes() {
        Particleway row = Fields.spreadOut(Fields.row(3, 0, 7), 8);
        row.drive(0);
        // 3 15 16 16 16 16 16 30
        int[] due = {31, 26, 27, 28, 29, 30, 25, 24};
        for (int place = 0; place < due.length; place++) {
            checks.due("place " + place, row.best(place), due[place]);
        }
        Particleway one = Fields.spreadOut(new Particleway(), 8);
        one.drive(1);
        for (int place = 0; place < 64; place++) {
            // 30 in the lowest row, then 16 in five, 15, and 3 in the uppermost.
            int y = place < 8 ? 7 : place < 48 ? place / 8 + 1 : place < 56 ? 1 : 0;
            checks.due("place " + place + " of 64", one.best(place), 8 * y + place % 8);
        }
    }

    private void lowestOfAlikeBestOnes() {
        Particleway one = Fields.spreadOut(new Particleway(), 8);
        for (int place = 0; place < 64; place++) {
            checks.due("place " + place + " of alike ones", one.best(place), place);
        }
        one.drive(3);
        for (int place = 0; place < 64; place++) {
            // 30 in the uppermost row, 16 in the next five, 15, then 3.
            checks.due("place " + place + ", by rows", one.best(place), place);
        }
    }

    private void firstAndLastPlace() {
        Particleway one = Fields.spreadOut(new Particleway(), 8);
        checks.due("the first of 64", one.best(0), 0);
        checks.due("the last of 64", one.best(63), 63);
        Particleway alone = Fields.spreadOut(Fields.only(63), 8);
        checks.due("the first and last of one", alone.best(0), 63);
    }

    private void noSuchBest() {
        Particleway one = Fields.spreadOut(new Particleway(), 8);
        for (int place : new int[] {64, 65, 128, 1000, MAX}) {
            checks.due("place " + place + " of 64", one.best(place), Particleway.NONE);
        }
        Particleway alone = Fields.spreadOut(Fields.single(), 8);
        for (int place : new int[] {1, 2, 63, 64, MAX}) {
            checks.due("place " + place + " of one", alone.best(place), Particleway.NONE);
        }
        Particleway row = Fields.spreadOut(Fields.row(0, 0, 7), 8);
        row.read(0, 0);
        checks.due("three have a belief above 0", row.best(2), 5);
        checks.due("a free cell with a belief of 0", row.best(3), Particleway.NONE);
        row.read(0, 7);
        checks.due("all have one again", row.best(7), 7);
        checks.due("but no wall", row.best(8), Particleway.NONE);
    }

    private void placesBelow() {
        for (int place : new int[] {-1, -2, -64, MIN}) {
            checks.dueThrow("place " + place, Checks.INDEX, () -> told().best(place));
            checks.dueThrow("place ahead of spread " + place, Checks.INDEX, () -> new Particleway().best(place));
        }
        checks.dueThrow("place 0", Checks.NOTHING, () -> told().best(0));
    }

    private void lastDoubt() {
        Particleway one = Fields.spreadOut(Fields.single(), 8);
        int[] readings = {0, 3, 3, 0};
        // The averages are 256 and 256, 224 and 128, 196 and 64, 203 and 160.
        int[] due = {0, 110, 173, 55};
        for (int i = 0; i < due.length; i++) {
            one.read(0, readings[i]);
            checks.due("read " + i, one.doubt(), due[i]);
            one.drive(0);
            checks.due("driven since " + i, one.doubt(), due[i]);
            checks.dueThrow("a wrong reading", Checks.ARGUMENT, () -> one.read(0, 8));
            checks.due("a wrong reading is none " + i, one.doubt(), due[i]);
            checks.due("asked once more " + i, one.doubt(), due[i]);
        }
    }

    private void noDoubt() {
        Particleway one = Fields.spreadOut(Fields.single(), 8);
        checks.due("spread", one.doubt(), 0);
        one.drive(0);
        checks.due("driven alone", one.doubt(), 0);
        one.read(0, 7);
        checks.due("the most", one.doubt(), 256);
        one.spread(8);
        checks.due("spread again", one.doubt(), 0);
        one.drive(0);
        checks.due("driven alone, spread again", one.doubt(), 0);
    }

    // ---- the mean, the share

    private void leastAndMostMean() {
        boolean[] both = {true, false};
        for (boolean bySamples : both) {
            for (boolean isY : both) {
                checks.due("in the first cell", Fields.spreadOut(Fields.only(0), 64).mean(bySamples, isY), 0);
                checks.due("in the last cell", Fields.spreadOut(Fields.only(63), 64).mean(bySamples, isY), 700);
                checks.due("in the cell 7 0", Fields.spreadOut(Fields.only(7), 64).mean(bySamples, isY), isY ? 0 : 700);
                checks.due("in the cell 0 7", Fields.spreadOut(Fields.only(56), 64).mean(bySamples, isY), isY ? 700 : 0);
            }
        }
        Particleway great = Fields.spreadOut(Fields.row(7, 0, 7), 8);
        for (int i = 0; i < 50; i++) {
            great.drive(1);
        }
        checks.due("x of eight of the greatest beliefs", great.mean(false, false), 350);
        checks.due("y of eight of the greatest beliefs", great.mean(false, true), 700);
    }

    private void meanRoundedDown() {
        Particleway two = Fields.spreadOut(Fields.pair(), 8);
        // 7 by 8 is 0.875; 15 by 16 is 0.9375; 29 by 32 is 0.90625.
        checks.due("of 7 of 8 samples", two.mean(true, false), 87);
        checks.due("of two beliefs of 1", two.mean(false, false), 50);
        two.drive(0);
        checks.due("of 29 of 32 beliefs", two.mean(false, false), 90);
        two.spread(8);
        two.draw(1);
        two.spread(8);
        two.read(0, 0);
        checks.due("of 15 of 16 samples", two.mean(true, false), 93);
        Particleway three = Fields.spreadOut(Fields.only(0, 1, 16), 8);
        checks.due("x of three beliefs, a third", three.mean(false, false), 33);
        checks.due("y of three beliefs, two thirds", three.mean(false, true), 66);
    }

    private void leastAndMostShare() {
        Particleway one = Fields.spreadOut(Fields.pair(), 64);
        boolean[] both = {true, false};
        for (boolean bySamples : both) {
            checks.due("all", one.share(0, 0, 7, 7, bySamples), 1000);
            checks.due("all that are free", one.share(0, 0, 1, 0, bySamples), 1000);
            checks.due("walls alone", one.share(2, 0, 7, 7, bySamples), 0);
            checks.due("a wall in the last cell", one.share(7, 7, 7, 7, bySamples), 0);
        }
        Particleway great = Fields.spreadOut(Fields.row(7, 0, 7), 8);
        for (int i = 0; i < 50; i++) {
            great.drive(1);
        }
        checks.due("all of the greatest beliefs", great.share(0, 0, 7, 7, false), 1000);
        checks.due("one of the greatest beliefs", great.share(7, 7, 7, 7, false), 125);
    }

    private void shareRoundedDown() {
        Particleway one = Fields.spreadOut(new Particleway(), 8);
        checks.due("1 of 64 beliefs, 15.6", one.share(0, 0, 0, 0, false), 15);
        checks.due("63 of 64 beliefs and less, 875 and 109.3", one.share(0, 0, 6, 7, false), 875);
        checks.due("7 of 64 beliefs, 109.3", one.share(1, 0, 7, 0, false), 109);
        Particleway three = Fields.spreadOut(Fields.only(0, 1, 16), 9);
        checks.due("1 of 3 beliefs", three.share(0, 2, 0, 2, false), 333);
        checks.due("2 of 3 beliefs", three.share(0, 0, 1, 0, false), 666);
        Particleway nine = Fields.spreadOut(Fields.pair(), 9);
        checks.due("2 of 9 samples, 222.2", nine.share(0, 0, 0, 0, true), 222);
        checks.due("7 of 9 samples, 777.7", nine.share(1, 0, 1, 0, true), 777);
    }

    /** A single free cell at 3, 3: it is in the region from there, and from one less, not from one more. */
    private void dueSharesWithin(boolean isX) {
        boolean[] both = {true, false};
        for (boolean bySamples : both) {
            Particleway one = Fields.spreadOut(Fields.only(27), 8);
            for (int from = 0; from < 8; from++) {
                int due = from <= 3 ? 1000 : 0;
                checks.due("from " + from, isX ? one.share(from, 0, 7, 7, bySamples)
                        : one.share(0, from, 7, 7, bySamples), due);
                checks.due("from " + from + " beside the last", isX ? one.share(from, 3, 7, 3, bySamples)
                        : one.share(3, from, 3, 7, bySamples), due);
            }
        }
    }

    private void leastAndMostToX() {
        Particleway one = Fields.spreadOut(Fields.only(27), 8);
        for (int x = 0; x < 8; x++) {
            for (int toX = x; toX < 8; toX++) {
                int due = x <= 3 && toX >= 3 ? 1000 : 0;
                checks.due("from " + x + " to " + toX, one.share(x, 0, toX, 7, true), due);
                checks.due("beliefs from " + x + " to " + toX, one.share(x, 3, toX, 3, false), due);
            }
            int from = x;
            checks.dueThrow("to one less than " + x, Checks.ARGUMENT, () -> one.share(from, 0, from - 1, 7, true));
            checks.dueThrow("from " + x + " to 8", Checks.ARGUMENT, () -> one.share(from, 0, 8, 7, true));
        }
    }

    private void leastAndMostToY() {
        Particleway one = Fields.spreadOut(Fields.only(27), 8);
        for (int y = 0; y < 8; y++) {
            for (int toY = y; toY < 8; toY++) {
                int due = y <= 3 && toY >= 3 ? 1000 : 0;
                checks.due("from " + y + " to " + toY, one.share(0, y, 7, toY, true), due);
                checks.due("beliefs from " + y + " to " + toY, one.share(3, y, 3, toY, false), due);
            }
            int from = y;
            checks.dueThrow("to one less than " + y, Checks.ARGUMENT, () -> one.share(0, from, 7, from - 1, true));
            checks.dueThrow("from " + y + " to 8", Checks.ARGUMENT, () -> one.share(0, from, 7, 8, true));
        }
    }

    private void noSuchRegion() {
        for (int out : OUTSIDE) {
            checks.dueThrow("toX " + out, Checks.ARGUMENT, () -> told().share(0, 0, out, 7, true));
            checks.dueThrow("toY " + out, Checks.ARGUMENT, () -> told().share(0, 0, 7, out, false));
            checks.dueThrow("both " + out, Checks.ARGUMENT, () -> told().share(7, 7, out, out, false));
        }
        checks.dueThrow("toX below x", Checks.ARGUMENT, () -> told().share(7, 0, 6, 7, true));
        checks.dueThrow("toY below y", Checks.ARGUMENT, () -> told().share(0, 7, 7, 6, true));
        checks.dueThrow("the smallest region", Checks.NOTHING, () -> told().share(7, 7, 7, 7, true));
    }
}
