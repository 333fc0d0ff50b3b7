/** Water on a terrain of eight rows and eight columns. */
public final class FloodTerrain {
    public static final int BAD_CELL = -1;
    public static final int BAD_HEIGHT = -2;
    public static final int NONE = -3;

    private static final int SIDE = 8;
    private static final int CELLS = 64;
    private static final int LAST = 7;
    private static final int TOP = 99;
    private static final int PATTERN_MASK = 63;

    private static final int DIRECTIONS = 4;
    private static final int UP = 0;
    private static final int DOWN = 1;
    private static final int LEFT = 2;
    private static final int NO_CELL = -1;

    // Above every height, so that any way found is better.
    private static final int UNREACHED = 100;

    private static final int DRY = 0;
    private static final int WET = 1;

    private final int[] heights = new int[CELLS];

    // The rest is scratch space: each call fills what it reads, so none of it outlives a call.
    private final int[] ground = new int[CELLS];
    private final int[] crests = new int[CELLS];
    private final int[] kinds = new int[CELLS];
    private final int[] groups = new int[CELLS];
    private final boolean[] overlooked = new boolean[CELLS];

    public FloodTerrain() {
    }

    public int set(int cell, int height) {
        if (!isCell(cell)) {
            return BAD_CELL;
        }
        if (height < 0 || height > TOP) {
            return BAD_HEIGHT;
        }
        int old = heights[cell];
        heights[cell] = height;
        return old;
    }

    public int shift(int a, int b, int more) {
        if (!isCell(a) || !isCell(b)) {
            return BAD_CELL;
        }
        int top = lesser(a / SIDE, b / SIDE);
        int bottom = greater(a / SIDE, b / SIDE);
        int left = lesser(a % SIDE, b % SIDE);
        int right = greater(a % SIDE, b % SIDE);
        int changed = 0;
        for (int row = top; row <= bottom; row++) {
            for (int column = left; column <= right; column++) {
                int cell = row * SIDE + column;
                int old = heights[cell];
                heights[cell] = raised(old, more);
                if (heights[cell] != old) {
                    changed++;
                }
            }
        }
        return changed;
    }

    public void pattern(int factor, int start) {
        for (int cell = 0; cell < CELLS; cell++) {
            heights[cell] = (cell * factor + start) & PATTERN_MASK;
        }
    }

    public int height(int cell) {
        if (!isCell(cell)) {
            return BAD_CELL;
        }
        return heights[cell];
    }

    public int level(int cell) {
        if (!isCell(cell)) {
            return BAD_CELL;
        }
        findLevels();
        return crests[cell];
    }

    public int volume() {
        findLevels();
        int sum = 0;
        for (int cell = 0; cell < CELLS; cell++) {
            sum += crests[cell] - heights[cell];
        }
        return sum;
    }

    public int lakes() {
        findLakes();
        int count = 0;
        for (int cell = 0; cell < CELLS; cell++) {
            if (kinds[cell] == WET && groups[cell] == cell) {
                count++;
            }
        }
        return count;
    }

    public int lakeSize(int cell) {
        if (!isCell(cell)) {
            return BAD_CELL;
        }
        findLakes();
        if (kinds[cell] == DRY) {
            return 0;
        }
        int size = 0;
        for (int other = 0; other < CELLS; other++) {
            if (groups[other] == groups[cell]) {
                size++;
            }
        }
        return size;
    }

    public int pass(int a, int b) {
        if (!isCell(a) || !isCell(b)) {
            return BAD_CELL;
        }
        useHeights();
        findCrestsFrom(a);
        return crests[b];
    }

    public int reach(int a, int crest) {
        if (!isCell(a)) {
            return BAD_CELL;
        }
        useHeights();
        findCrestsFrom(a);
        int count = 0;
        for (int cell = 0; cell < CELLS; cell++) {
            if (crests[cell] <= crest) {
                count++;
            }
        }
        return count;
    }

    public int prominence(int cell) {
        if (!isCell(cell)) {
            return BAD_CELL;
        }
        // Upside down, a way that stays as high as possible is one of least crest.
        useHeightsUpsideDown();
        findCrestsFrom(cell);
        int descent = UNREACHED;
        for (int other = 0; other < CELLS; other++) {
            if (heights[other] > heights[cell]) {
                descent = lesser(descent, crests[other]);
            }
        }
        if (descent == UNREACHED) {
            return heights[cell] - leastHeight();
        }
        return descent - ground[cell];
    }

    public int summits() {
        for (int cell = 0; cell < CELLS; cell++) {
            kinds[cell] = heights[cell];
        }
        joinKinds();
        findOverlookedGroups();
        int count = 0;
        for (int cell = 0; cell < CELLS; cell++) {
            if (groups[cell] == cell && !overlooked[cell]) {
                count++;
            }
        }
        return count;
    }

    private static boolean isCell(int cell) {
        return cell >= 0 && cell < CELLS;
    }

    private static boolean isBorder(int cell) {
        int row = cell / SIDE;
        int column = cell % SIDE;
        return row == 0 || row == LAST || column == 0 || column == LAST;
    }

    private static int neighbour(int cell, int direction) {
        int row = cell / SIDE;
        int column = cell % SIDE;
        switch (direction) {
            case UP:
                return row > 0 ? cell - SIDE : NO_CELL;
            case DOWN:
                return row < LAST ? cell + SIDE : NO_CELL;
            case LEFT:
                return column > 0 ? cell - 1 : NO_CELL;
            default:
                return column < LAST ? cell + 1 : NO_CELL;
        }
    }

    private static int lesser(int a, int b) {
        return a < b ? a : b;
    }

    private static int greater(int a, int b) {
        return a > b ? a : b;
    }

    private static int raised(int height, int more) {
        // As a long, because a great 'more' would wrap an int round to the wrong limit.
        long sum = (long) height + more;
        if (sum < 0) {
            return 0;
        }
        if (sum > TOP) {
            return TOP;
        }
        return (int) sum;
    }

    private int leastHeight() {
        int least = TOP;
        for (int cell = 0; cell < CELLS; cell++) {
            least = lesser(least, heights[cell]);
        }
        return least;
    }

    private void useHeights() {
        for (int cell = 0; cell < CELLS; cell++) {
            ground[cell] = heights[cell];
        }
    }

    private void useHeightsUpsideDown() {
        for (int cell = 0; cell < CELLS; cell++) {
            ground[cell] = TOP - heights[cell];
        }
    }

    private void findLevels() {
        useHeights();
        for (int cell = 0; cell < CELLS; cell++) {
            crests[cell] = isBorder(cell) ? ground[cell] : UNREACHED;
        }
        spreadCrests();
    }

    private void findCrestsFrom(int start) {
        for (int cell = 0; cell < CELLS; cell++) {
            crests[cell] = UNREACHED;
        }
        crests[start] = ground[start];
        spreadCrests();
    }

    private void spreadCrests() {
        // A way needs no cell twice, so it has fewer steps than there are cells:
        // as many rounds as cells, each good for one step at least, are enough.
        for (int round = 0; round < CELLS; round++) {
            for (int cell = 0; cell < CELLS; cell++) {
                for (int direction = 0; direction < DIRECTIONS; direction++) {
                    int beside = neighbour(cell, direction);
                    if (beside != NO_CELL) {
                        int crest = greater(crests[beside], ground[cell]);
                        crests[cell] = lesser(crests[cell], crest);
                    }
                }
            }
        }
    }

    private void findLakes() {
        findLevels();
        for (int cell = 0; cell < CELLS; cell++) {
            kinds[cell] = crests[cell] > heights[cell] ? WET : DRY;
        }
        joinKinds();
    }

    /** Gives all cells of one kind that hang together the same group: the least cell among them. */
    private void joinKinds() {
        for (int cell = 0; cell < CELLS; cell++) {
            groups[cell] = cell;
        }
        // The number of rounds is enough for the reason told in spreadCrests.
        for (int round = 0; round < CELLS; round++) {
            for (int cell = 0; cell < CELLS; cell++) {
                for (int direction = 0; direction < DIRECTIONS; direction++) {
                    int beside = neighbour(cell, direction);
                    if (beside != NO_CELL && kinds[beside] == kinds[cell]) {
                        groups[cell] = lesser(groups[cell], groups[beside]);
                    }
                }
            }
        }
    }

    private void findOverlookedGroups() {
        for (int cell = 0; cell < CELLS; cell++) {
            overlooked[cell] = false;
        }
        for (int cell = 0; cell < CELLS; cell++) {
            for (int direction = 0; direction < DIRECTIONS; direction++) {
                int beside = neighbour(cell, direction);
                if (beside != NO_CELL && heights[beside] > heights[cell]) {
                    overlooked[groups[cell]] = true;
                }
            }
        }
    }
}
