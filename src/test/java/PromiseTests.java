/** Each promise of the document on terrains small enough to be worked out by hand. */
public final class PromiseTests {
    private static final int MIN = Integer.MIN_VALUE;
    private static final int MAX = Integer.MAX_VALUE;
    private static final int[] WRONG_CELLS = {-1, 64, 65, -64, 128, MIN, MAX};
    private static final int BAD_CELL = -1;
    private static final int BAD_HEIGHT = -2;

    private static int wrong = 0;

    private static void due(String what, int got, int want) {
        if (got != want) {
            wrong++;
            System.out.println(what + " answered " + got + ", due is " + want);
        }
    }

    /** A terrain from eight rows of eight heights: '.' is 0, a digit is ten times itself, '#' is 99. */
    private static FloodTerrain terrain(String... rows) {
        FloodTerrain x = new FloodTerrain();
        for (int cell = 0; cell < 64; cell++) {
            char c = rows[cell / 8].charAt(cell % 8);
            x.set(cell, c == '.' ? 0 : c == '#' ? 99 : (c - '0') * 10);
        }
        return x;
    }

    private static FloodTerrain flat(int height) {
        FloodTerrain x = new FloodTerrain();
        x.shift(0, 63, height);
        return x;
    }

    private static int[] heights(FloodTerrain x) {
        int[] all = new int[64];
        for (int cell = 0; cell < 64; cell++) {
            all[cell] = x.height(cell);
        }
        return all;
    }

    private static void dueHeights(String what, FloodTerrain x, int[] want) {
        for (int cell = 0; cell < 64; cell++) {
            due(what + ": height(" + cell + ")", x.height(cell), want[cell]);
        }
    }

    private static void promise1NewObject() {
        FloodTerrain x = new FloodTerrain();
        dueHeights("1 new", x, new int[64]);
        due("1 new: volume", x.volume(), 0);
        due("1 new: lakes", x.lakes(), 0);
        due("1 new: summits", x.summits(), 1);
        due("1 new: level", x.level(27), 0);
        due("1 new: lakeSize", x.lakeSize(27), 0);
        due("1 new: pass", x.pass(0, 63), 0);
        due("1 new: reach", x.reach(9, 0), 64);
        due("1 new: prominence", x.prominence(9), 0);
        x.set(5, 50);
        due("1 objects are apart", new FloodTerrain().height(5), 0);
    }

    private static void promise2Set() {
        FloodTerrain x = new FloodTerrain();
        due("2 set first", x.set(10, 42), 0);
        due("2 set again", x.set(10, 7), 42);
        due("2 set same", x.set(10, 7), 7);
        due("2 set to 99", x.set(0, 99), 0);
        due("2 set to 0", x.set(0, 0), 99);
        due("2 set last cell", x.set(63, 1), 0);
        int[] before = heights(x);
        due("2 before: 10", before[10], 7);
        due("2 before: 63", before[63], 1);
        for (int cell : WRONG_CELLS) {
            due("2 set(" + cell + ", 5)", x.set(cell, 5), BAD_CELL);
        }
        for (int height : new int[] {-1, 100, 127, 256, MIN, MAX}) {
            due("2 set(10, " + height + ")", x.set(10, height), BAD_HEIGHT);
        }
        dueHeights("2 after wrong calls", x, before);
    }

    private static void promise3Shift() {
        // The four ways to name the rectangle of rows 1 to 3 and columns 2 to 5.
        int[][] corners = {{10, 29}, {29, 10}, {13, 26}, {26, 13}};
        for (int[] corner : corners) {
            FloodTerrain x = new FloodTerrain();
            due("3 shift " + corner[0], x.shift(corner[0], corner[1], 4), 12);
            for (int cell = 0; cell < 64; cell++) {
                boolean inside = cell / 8 >= 1 && cell / 8 <= 3 && cell % 8 >= 2 && cell % 8 <= 5;
                due("3 shift " + corner[0] + ": height(" + cell + ")", x.height(cell), inside ? 4 : 0);
            }
        }
        FloodTerrain x = new FloodTerrain();
        due("3 one cell", x.shift(63, 63, 1), 1);
        due("3 by 0", x.shift(0, 63, 0), 0);
        due("3 down at 0", x.shift(0, 63, -1), 1);
        due("3 down to 0", x.height(63), 0);
        due("3 all", x.shift(0, 63, 98), 64);
        due("3 one higher", x.set(7, 99), 98);
        due("3 up to 99", x.shift(0, 63, 1), 63);
        due("3 99 stays", x.height(7), 99);
        due("3 98 is 99", x.height(8), 99);
        due("3 up at 99", x.shift(56, 7, 1), 0);
        due("3 least more", x.shift(0, 63, MIN), 64);
        due("3 least more: 0", x.height(30), 0);
        x.set(30, 1);
        due("3 greatest more", x.shift(0, 63, MAX), 64);
        due("3 greatest more: 99", x.height(30), 99);
        due("3 over the end", x.shift(0, 7, -200), 8);
        due("3 over the end: 0", x.height(0), 0);
        x.set(1, 60);
        due("3 clipped above", x.shift(1, 1, 60), 1);
        due("3 clipped above: 99", x.height(1), 99);
        int[] before = heights(x);
        for (int cell : WRONG_CELLS) {
            due("3 shift(" + cell + ", 5, -9)", x.shift(cell, 5, -9), BAD_CELL);
            due("3 shift(5, " + cell + ", -9)", x.shift(5, cell, -9), BAD_CELL);
            due("3 shift(" + cell + " twice)", x.shift(cell, cell, -9), BAD_CELL);
        }
        dueHeights("3 after wrong calls", x, before);
    }

    private static void promise4Pattern() {
        int[] numbers = {0, 1, -1, 7, 63, 64, 65, -13, 1 << 30, MIN, MAX, 123456789};
        for (int factor : numbers) {
            for (int start : numbers) {
                FloodTerrain x = flat(99);
                x.pattern(factor, start);
                for (int cell = 0; cell < 64; cell++) {
                    long value = (long) cell * factor + start;
                    due("4 pattern(" + factor + ", " + start + ") at " + cell,
                        x.height(cell), (int) Math.floorMod(value, 64L));
                }
            }
        }
        FloodTerrain x = new FloodTerrain();
        x.pattern(-1, 0);
        due("4 cell 0", x.height(0), 0);
        due("4 cell 1", x.height(1), 63);
        due("4 cell 63", x.height(63), 1);
    }

    private static void promise5Height() {
        FloodTerrain x = new FloodTerrain();
        x.pattern(1, 0);
        due("5 first", x.height(0), 0);
        due("5 middle", x.height(37), 37);
        due("5 last", x.height(63), 63);
        for (int cell : WRONG_CELLS) {
            due("5 height(" + cell + ")", x.height(cell), BAD_CELL);
        }
    }

    // A pool inside a ring of 50 with a notch of 30, a hollow of one cell inside a ring
    // of 90, and another whose lowest side is a border cell.
    private static FloodTerrain pools() {
        return terrain(
            "........",
            ".5555.9.",
            ".5..5919",
            ".51.3.9.",
            ".5555...",
            "......77",
            "....77.2",
            "......7.");
    }

    private static void promise6Level() {
        FloodTerrain x = pools();
        due("6 pool", x.level(18), 30);
        due("6 other pool cell", x.level(27), 30);
        due("6 pool's higher cell", x.level(26), 30);
        due("6 notch", x.level(28), 30);
        due("6 rim", x.level(17), 50);
        due("6 border", x.level(0), 0);
        due("6 high border", x.level(23), 90);
        due("6 low border in a hollow", x.level(63), 0);
        due("6 hollow", x.level(22), 90);
        due("6 beside a border cell", x.level(54), 20);
        due("6 open", x.level(45), 0);
        due("6 all is rim", flat(99).level(27), 99);
        for (int cell : WRONG_CELLS) {
            due("6 level(" + cell + ")", x.level(cell), BAD_CELL);
        }
        // Every border cell of a bowl keeps its own height; corner 0, the lowest, drains nothing.
        FloodTerrain bowl = new FloodTerrain();
        for (int cell = 0; cell < 64; cell++) {
            bowl.set(cell, cell / 8 % 7 == 0 || cell % 8 % 7 == 0 ? 36 + cell : 0);
        }
        for (int cell = 0; cell < 64; cell++) {
            boolean border = cell / 8 % 7 == 0 || cell % 8 % 7 == 0;
            due("6 bowl: level(" + cell + ")", bowl.level(cell), border ? 36 + cell : 37);
        }
    }

    private static void promise7Volume() {
        // 30 + 30 + 20 + 30 in the pool, 80 in the hollow, 20 beside the border.
        due("7 pools", pools().volume(), 210);
        FloodTerrain bowl = flat(99);
        due("7 flat", bowl.volume(), 0);
        bowl.shift(9, 54, -99);
        due("7 bowl", bowl.volume(), 36 * 99);
        bowl.set(31, 98);
        due("7 chipped bowl", bowl.volume(), 36 * 98);
        bowl.set(0, 0);
        due("7 a corner lets nothing out", bowl.volume(), 36 * 98);
        bowl.set(31, 0);
        due("7 broken bowl", bowl.volume(), 0);
    }

    private static void promise8Lakes() {
        due("8 pools", pools().lakes(), 3);
        FloodTerrain x = flat(50);
        due("8 flat", x.lakes(), 0);
        x.set(9, 10);
        x.set(18, 10);
        due("8 slantwise is apart", x.lakes(), 2);
        x.set(10, 20);
        due("8 joined", x.lakes(), 1);
        x.set(8, 5);
        due("8 drained to the border, a sill left", x.lakes(), 1);
        x.set(10, 10);
        due("8 drained", x.lakes(), 0);
        // No lake goes on over the end of a row into the next one.
        FloodTerrain rows = flat(50);
        rows.set(14, 0);
        rows.set(17, 0);
        due("8 two rows", rows.lakes(), 2);
        FloodTerrain board = flat(9);
        for (int cell = 0; cell < 64; cell++) {
            if ((cell / 8 + cell % 8) % 2 == 0) {
                board.set(cell, 3);
            }
        }
        due("8 chess board", board.lakes(), 18);
    }

    private static void promise9LakeSize() {
        FloodTerrain x = pools();
        for (int cell : new int[] {18, 19, 26, 27}) {
            due("9 pool " + cell, x.lakeSize(cell), 4);
        }
        due("9 hollow", x.lakeSize(22), 1);
        due("9 beside the border", x.lakeSize(54), 1);
        due("9 notch", x.lakeSize(28), 0);
        due("9 border", x.lakeSize(0), 0);
        due("9 dry", x.lakeSize(45), 0);
        for (int cell : WRONG_CELLS) {
            due("9 lakeSize(" + cell + ")", x.lakeSize(cell), BAD_CELL);
        }
        FloodTerrain bowl = flat(99);
        bowl.shift(9, 54, -99);
        due("9 bowl", bowl.lakeSize(36), 36);
        due("9 bowl's rim", bowl.lakeSize(7), 0);
    }

    // One corridor of 36 cells through all the terrain, with a step in its middle.
    private static FloodTerrain snake() {
        return terrain(
            "........",
            "#######.",
            "........",
            ".#######",
            "....1...",
            "#######.",
            "........",
            ".#######");
    }

    private static void promise10Pass() {
        FloodTerrain x = snake();
        due("10 snake up to the step", x.pass(0, 32), 0);
        due("10 snake back", x.pass(32, 0), 0);
        due("10 snake over the step", x.pass(0, 56), 10);
        due("10 snake back over the step", x.pass(56, 0), 10);
        due("10 onto a wall", x.pass(0, 8), 99);
        due("10 from a wall", x.pass(8, 0), 99);
        due("10 to itself", x.pass(36, 36), 10);
        due("10 to itself, low", x.pass(0, 0), 0);
        due("10 its start counts", x.pass(36, 0), 10);
        due("10 its end counts", x.pass(0, 36), 10);
        due("10 into the pool", pools().pass(0, 18), 30);
        due("10 within the pool", pools().pass(18, 26), 10);
        FloodTerrain wall = terrain(
            "...4....", "...4....", "...4....", "...4....",
            "...4....", "...4....", "...4....", "...4....");
        due("10 beside in number, not in place", wall.pass(7, 8), 40);
        due("10 beside in number, not in place, back", wall.pass(8, 7), 40);
        for (int cell : WRONG_CELLS) {
            due("10 pass(" + cell + ", 5)", x.pass(cell, 5), BAD_CELL);
            due("10 pass(5, " + cell + ")", x.pass(5, cell), BAD_CELL);
            due("10 pass(" + cell + " twice)", x.pass(cell, cell), BAD_CELL);
        }
    }

    private static void promise11Reach() {
        FloodTerrain x = snake();
        due("11 up to the step", x.reach(0, 0), 8 + 1 + 8 + 1 + 4);
        due("11 below the step", x.reach(0, 9), 22);
        due("11 over the step", x.reach(0, 10), 36);
        due("11 from the end", x.reach(56, 0), 1 + 8 + 1 + 3);
        due("11 below the walls", x.reach(0, 98), 36);
        due("11 all", x.reach(0, 99), 64);
        due("11 greatest crest", x.reach(0, MAX), 64);
        due("11 below the start", x.reach(36, 9), 0);
        due("11 at the start", x.reach(36, 10), 36);
        due("11 a wall alone is not enough", x.reach(8, 98), 0);
        due("11 negative crest", x.reach(0, -1), 0);
        due("11 least crest", x.reach(0, MIN), 0);
        for (int cell : WRONG_CELLS) {
            due("11 reach(" + cell + ", 99)", x.reach(cell, 99), BAD_CELL);
            due("11 reach(" + cell + ", -1)", x.reach(cell, -1), BAD_CELL);
        }
    }

    private static void promise12Prominence() {
        FloodTerrain x = terrain(
            "11111111",
            "18111111",
            "13335111",
            "11111111",
            "11179111",
            "11111171",
            "11111112",
            "11111111");
        due("12 highest", x.prominence(36), 80);
        due("12 second, by the ridge's gap", x.prominence(9), 70);
        due("12 beside a higher one", x.prominence(35), 0);
        due("12 on the ridge", x.prominence(20), 20);
        due("12 beside the top", x.prominence(17), 0);
        due("12 apart", x.prominence(46), 60);
        due("12 slantwise is apart", x.prominence(55), 10);
        due("12 plain with a higher neighbour", x.prominence(8), 0);
        due("12 plain far from all others", x.prominence(0), 0);
        x.set(63, 3);
        due("12 highest, over the least of all", x.prominence(36), 87);
        due("12 least of all", x.prominence(63), 0);
        // Equal heights are not greater: both tops count down to the least height.
        x.set(9, 90);
        due("12 one of two highest", x.prominence(36), 87);
        due("12 other of two highest", x.prominence(9), 87);
        due("12 flat", flat(99).prominence(5), 0);
        FloodTerrain spike = new FloodTerrain();
        spike.set(0, 99);
        due("12 spike", spike.prominence(0), 99);
        due("12 around the spike", spike.prominence(63), 0);
        // The way may lead over cells of equal height, and is as good as its lowest cell.
        FloodTerrain ridge = terrain(
            "65555555",
            ".......5",
            "55555555",
            "5.......",
            "55555555",
            ".......5",
            "55555555",
            "7.......");
        due("12 along the ridge", ridge.prominence(0), 10);
        due("12 on the ridge, a higher cell far off", ridge.prominence(36), 0);
        ridge.set(36, 20);
        due("12 over the ridge's gap", ridge.prominence(0), 40);
        due("12 far end, the highest", ridge.prominence(56), 70);
        ridge.set(56, 50);
        due("12 far end, over the gap", ridge.prominence(56), 30);
        for (int cell : WRONG_CELLS) {
            due("12 prominence(" + cell + ")", x.prominence(cell), BAD_CELL);
        }
    }

    private static void promise13Summits() {
        due("13 flat", flat(7).summits(), 1);
        FloodTerrain x = terrain(
            "5511....",
            "5.11....",
            "..1112..",
            "........",
            "...33...",
            "..3..3..",
            "...33...",
            ".......9");
        // The block of 50, the 20 above the 10s, four sets of 30 (two pairs and two
        // single cells, slantwise of each other), and the 90.
        due("13 several", x.summits(), 7);
        x.set(21, 10);
        due("13 the 10s are one set, beside the 50s", x.summits(), 6);
        x.set(2, 50);
        due("13 set grown", x.summits(), 6);
        x.set(42, 0);
        due("13 one less", x.summits(), 5);
        // A long set is overlooked as a whole, whichever of its ends the higher cell is at.
        FloodTerrain snake = snake();
        due("13 walls", snake.summits(), 4);
        snake.pattern(0, 0);
        for (int row = 0; row < 8; row += 2) {
            snake.shift(row * 8, row * 8 + 7, 50);
        }
        due("13 four rows", snake.summits(), 4);
        snake.set(15, 50);
        snake.set(24, 50);
        snake.set(47, 50);
        due("13 one snake", snake.summits(), 1);
        snake.set(56, 60);
        due("13 higher cell at the end", snake.summits(), 1);
        snake.set(56, 0);
        snake.set(0, 60);
        due("13 higher cell at the start", snake.summits(), 1);
        snake.set(1, 0);
        due("13 higher cell cut off", snake.summits(), 2);
        FloodTerrain board = new FloodTerrain();
        for (int cell = 0; cell < 64; cell++) {
            board.set(cell, (cell / 8 + cell % 8) % 2);
        }
        due("13 chess board", board.summits(), 32);
        FloodTerrain slope = new FloodTerrain();
        slope.pattern(1, 0);
        due("13 slope", slope.summits(), 1);
    }

    private static void promise14OrderAndLimits() {
        FloodTerrain x = new FloodTerrain();
        for (int cell : WRONG_CELLS) {
            due("14 set(" + cell + ", -1)", x.set(cell, -1), BAD_CELL);
            due("14 set(" + cell + ", 100)", x.set(cell, 100), BAD_CELL);
            due("14 set(" + cell + ", MIN)", x.set(cell, MIN), BAD_CELL);
        }
        due("14 BAD_CELL", FloodTerrain.BAD_CELL, BAD_CELL);
        due("14 BAD_HEIGHT", FloodTerrain.BAD_HEIGHT, BAD_HEIGHT);
        due("14 NONE", FloodTerrain.NONE, -3);
    }

    public static void main(String[] args) {
        promise1NewObject();
        promise2Set();
        promise3Shift();
        promise4Pattern();
        promise5Height();
        promise6Level();
        promise7Volume();
        promise8Lakes();
        promise9LakeSize();
        promise10Pass();
        promise11Reach();
        promise12Prominence();
        promise13Summits();
        promise14OrderAndLimits();
        System.out.println(wrong == 0 ? "all answers are as due" : wrong + " answers are not as due");
        if (wrong != 0) {
            System.exit(1);
        }
    }
}
