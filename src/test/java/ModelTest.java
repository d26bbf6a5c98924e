/** Long runs of calls, wrong ones among them, their arguments by a fixed row of numbers, beside the slow model. */
public final class ModelTest {
    private static final int RUNS = 120;

    private final Checks checks = new Checks();
    private long seed;
    private Particleway one;
    private Model model;
    private int told;

    public static void main(String[] args) {
        ModelTest test = new ModelTest();
        for (int run = 0; run < RUNS; run++) {
            test.run(run);
        }
        test.checks.end();
    }

    private int below(int bound) {
        seed = seed * 6364136223846793005L + 1442695040888963407L;
        return (int) Math.floorMod(seed >>> 33, (long) bound);
    }

    private void run(int run) {
        seed = run;
        one = new Particleway();
        model = new Model();
        told = 0;
        int calls = buildWalls(run % 6);
        spread();
        calls++;
        // Some runs go astray on purpose, so that readings stop fitting and beliefs fall to 0.
        int straying = run % 4 == 0 ? 2 : 12;
        int asking = run % 5 == 0 ? 4 : 2;
        while (calls < 512) {
            calls++;
            String call = "run " + run + ", call " + calls + ": ";
            if (below(12) == 0) {
                callWrongly(call);
            } else if (below(asking) == 0) {
                tell(straying);
            } else {
                ask(call);
            }
        }
    }

    /** From a bare field to one with a single free cell. */
    private int buildWalls(int kind) {
        int[] walls = {0, 6, 16, 30, 55, 63};
        int calls = 0;
        for (int tries = 0; tries < 400 && 64 - model.freeCells().size() < walls[kind]; tries++) {
            int cell = below(64);
            boolean is = below(8) != 0;
            if (is && !model.isWall(cell) && model.freeCells().size() == 1) {
                continue;
            }
            checks.due("wall " + cell, one.wall(cell % 8, cell / 8, is) ? 1 : 0, model.isWall(cell) ? 1 : 0);
            model.wall(cell, is);
            calls++;
        }
        return calls;
    }

    private void spread() {
        int many = 8 + below(57);
        one.spread(many);
        model.spread(many);
        told = 0;
    }

    private void tell(int straying) {
        int kind = below(60);
        int direction = below(4);
        if (kind == 0 || told == 300) {
            spread();
        } else if (kind == 1) {
            int x = 1 + below(65536);
            checks.due("draw", one.draw(x), model.setDrawn(x));
        } else if (kind < 30) {
            told++;
            one.drive(direction);
            model.drive(direction);
        } else {
            told++;
            int reading = below(straying) == 0 ? below(8) : Math.max(0, model.toRead(model.mode(true), direction));
            checks.due("read " + direction + " " + reading,
                    one.read(direction, reading), model.read(direction, reading));
        }
    }

    /** The model is not told of it: a call that throws changes nothing. */
    private void callWrongly(String call) {
        boolean isLow = below(2) == 0;
        int direction = isLow ? -1 : 4;
        int outside = isLow ? -1 : 8;
        int within = below(8);
        switch (below(10)) {
            case 0 -> checks.dueThrow(call + "wall", Checks.STATE, () -> one.wall(within, within, isLow));
            case 1 -> checks.dueThrow(call + "draw", Checks.ARGUMENT, () -> one.draw(isLow ? 0 : 65537));
            case 2 -> checks.dueThrow(call + "spread", Checks.ARGUMENT, () -> one.spread(isLow ? 7 : 65));
            case 3 -> checks.dueThrow(call + "drive", Checks.INDEX, () -> one.drive(direction));
            case 4 -> checks.dueThrow(call + "read " + direction, Checks.INDEX, () -> one.read(direction, within));
            case 5 -> checks.dueThrow(call + "read, " + outside, Checks.ARGUMENT, () -> one.read(0, outside));
            case 6 -> checks.dueThrow(call + "count", Checks.INDEX, () -> one.count(outside, within));
            case 7 -> checks.dueThrow(call + "beliefAnew", Checks.INDEX, () -> one.beliefAnew(within, outside));
            case 8 -> checks.dueThrow(call + "share", Checks.ARGUMENT,
                    () -> one.share(within, 0, isLow ? within - 1 : 8, 7, true));
            default -> checks.dueThrow(call + "best", Checks.INDEX, () -> one.best(-1));
        }
    }

    private void ask(String call) {
        int cell = below(64);
        int x = cell % 8;
        int y = cell / 8;
        boolean bySamples = below(2) == 0;
        boolean isY = below(2) == 0;
        switch (below(11)) {
            case 0 -> {
                int direction = below(4);
                checks.due(call + "toRead", one.toRead(x, y, direction), model.toRead(cell, direction));
            }
            case 1 -> checks.due(call + "samples", one.samples(), model.samples());
            case 2 -> {
                int sample = below(model.samples() + 1);
                if (sample < model.samples()) {
                    checks.due(call + "sample " + sample, one.sample(sample), model.sample(sample));
                } else {
                    checks.dueThrow(call + "sample beyond", Checks.INDEX, () -> one.sample(sample));
                }
            }
            case 3 -> checks.due(call + "count", one.count(x, y), model.count(cell));
            case 4 -> checks.due(call + "belief " + cell, one.belief(x, y), model.belief(cell));
            case 5 -> checks.due(call + "beliefAnew " + cell, one.beliefAnew(x, y), model.belief(cell));
            case 6 -> checks.due(call + "mode", one.mode(bySamples), model.mode(bySamples));
            case 7 -> checks.due(call + "mean", one.mean(bySamples, isY), model.mean(bySamples, isY));
            case 8 -> {
                int toX = x + below(8 - x);
                int toY = y + below(8 - y);
                checks.due(call + "share",
                        one.share(x, y, toX, toY, bySamples), model.share(x, y, toX, toY, bySamples));
            }
            case 9 -> {
                int place = below(70);
                checks.due(call + "best " + place, one.best(place), model.best(place));
            }
            default -> checks.due(call + "doubt", one.doubt(), model.doubt());
        }
    }
}
