import java.util.Arrays;

/** Fields to test on, and the numbers that are drawn. */
final class Fields {
    private static final int PRIME = 65537;
    /** 75 times this is 1, by its remainder by 65537: it leads from what was drawn to the number before. */
    private static final long BACK = 45439;

    private Fields() {
    }

    /** All cells but these are walls. */
    static Particleway only(int... free) {
        Particleway one = new Particleway();
        for (int cell = 0; cell < 64; cell++) {
            int looked = cell;
            if (Arrays.stream(free).noneMatch(other -> other == looked)) {
                one.wall(cell % 8, cell / 8, true);
            }
        }
        return one;
    }

    /** All but the cells from fromX to toX in the row y are walls. */
    static Particleway row(int y, int fromX, int toX) {
        int[] free = new int[toX - fromX + 1];
        for (int i = 0; i < free.length; i++) {
            free[i] = 8 * y + fromX + i;
        }
        return only(free);
    }

    static Particleway pair() {
        return only(0, 1);
    }

    static Particleway single() {
        return only(0);
    }

    static Particleway spreadOut(Particleway one, int many) {
        one.spread(many);
        return one;
    }

    /** Spread and driven to the end of a corridor, as long as chance needs. */
    static Particleway gathered(Particleway one, int many, int direction, int end) {
        one.spread(many);
        for (int times = 0; times < 100 && one.count(end % 8, end / 8) < many; times++) {
            one.drive(direction);
        }
        return one;
    }

    static int next(int x) {
        return (75 * x + 74) % PRIME;
    }

    static int after(int x, int draws) {
        int drawn = x;
        for (int i = 0; i < draws; i++) {
            drawn = next(drawn);
        }
        return drawn;
    }

    /** The number from which so many draws lead to what is drawn. */
    static int ahead(int drawn, int draws) {
        long x = drawn;
        for (int i = 0; i < draws; i++) {
            x = Math.floorMod((x - 74) * BACK, (long) PRIME);
        }
        return (int) x;
    }

    /** Sets the number x so that the draw of this place, from 1, draws it; returns x. */
    static int setDraw(Particleway one, int place, int drawn) {
        int x = ahead(drawn, place);
        one.draw(x);
        return x;
    }
}
