/**
 * Each sentence of the document that names a boundary case, with a test of its own.
 * What is due is told by the sentence or counted by hand; no object gets more than 512 calls.
 */
public final class BoundaryTests {
    private static final int MIN = Integer.MIN_VALUE;
    private static final int MAX = Integer.MAX_VALUE;
    private static final int BAD_CELL = -1;
    private static final int BAD_HEIGHT = -2;
    private static final int NONE = -3;

    // Both sides of the range, its far ends, and numbers whose low bits alone would be a cell.
    private static final int[] NO_CELLS = {
        MIN, MIN + 1, MIN + 27, -65536 + 27, -256, -65, -64, -63, -8, -2, -1,
        64, 65, 71, 72, 99, 127, 128, 256 + 27, 65536 + 27, 1 << 30, MAX - 63, MAX - 1, MAX};
    private static final int[] NO_HEIGHTS = {
        MIN, MIN + 1, MIN + 50, -65536 + 50, -256 + 50, -128, -100, -99, -50, -2, -1,
        100, 101, 127, 128, 199, 255, 256, 256 + 50, 65536 + 50, MAX - 1, MAX};
    private static final int[] EDGE_HEIGHTS = {0, 1, 2, 49, 50, 63, 64, 97, 98, 99};
    private static final int[] CORNERS = {0, 7, 56, 63};

    private static String sentence = "";
    private static int sentences = 0;
    private static int wrong = 0;

    private static void sentence(String words) {
        sentence = words;
        sentences++;
    }

    private static void due(String call, int got, int want) {
        if (got != want) {
            wrong++;
            System.out.println("[" + sentence + "] " + call + " answered " + got + ", due is " + want);
        }
    }

    private static boolean border(int cell) {
        return cell < 8 || cell > 55 || cell % 8 == 0 || cell % 8 == 7;
    }

    private static boolean beside(int a, int b) {
        return Math.abs(a / 8 - b / 8) + Math.abs(a % 8 - b % 8) == 1;
    }

    private static FloodTerrain flat(int height) {
        FloodTerrain x = new FloodTerrain();
        x.shift(0, 63, height);
        return x;
    }

    /** All cells at one height but two, which may be the same. */
    private static FloodTerrain flatBut(int height, int a, int heightA, int b, int heightB) {
        FloodTerrain x = flat(height);
        x.set(a, heightA);
        x.set(b, heightB);
        return x;
    }

    /** A border of one height about 36 cells of another. */
    private static FloodTerrain bowl(int rim, int floor) {
        FloodTerrain x = flat(rim);
        x.shift(9, 54, -99);
        x.shift(9, 54, floor);
        return x;
    }

    /** Lakes, slopes, walls and holes, with both ends of the range of heights. */
    private static FloodTerrain mixed() {
        FloodTerrain x = new FloodTerrain();
        x.pattern(37, 11);
        x.set(0, 99);
        x.set(63, 0);
        x.set(27, 0);
        x.set(28, 0);
        x.set(45, 99);
        x.set(46, 99);
        x.set(54, 5);
        return x;
    }

    private interface Question {
        int ask(FloodTerrain x, int cell);
    }

    private static final String[] NAMES = {
        "height", "level", "volume", "lakes", "lakeSize", "pass", "reach", "prominence", "summits"};
    private static final Question[] QUESTIONS = {
        (x, cell) -> x.height(cell),
        (x, cell) -> x.level(cell),
        (x, cell) -> x.volume(),
        (x, cell) -> x.lakes(),
        (x, cell) -> x.lakeSize(cell),
        (x, cell) -> x.pass(cell, 36),
        (x, cell) -> x.reach(cell, 40),
        (x, cell) -> x.prominence(cell),
        (x, cell) -> x.summits()};

    private static boolean asksAboutCell(int question) {
        return !NAMES[question].equals("volume") && !NAMES[question].equals("lakes")
            && !NAMES[question].equals("summits");
    }

    /** What every question answers: 387 calls, so one object stands this but once. */
    private static int[] allAnswers(FloodTerrain x) {
        int[] answers = new int[QUESTIONS.length * 64];
        for (int question = 0; question < QUESTIONS.length; question++) {
            int cells = asksAboutCell(question) ? 64 : 1;
            for (int cell = 0; cell < cells; cell++) {
                answers[question * 64 + cell] = QUESTIONS[question].ask(x, cell);
            }
        }
        return answers;
    }

    private static final int[] MIXED_ANSWERS = allAnswers(mixed());

    /** The object was mixed(); nothing that it answers may have changed. */
    private static void dueUnchanged(String call, FloodTerrain x) {
        int[] answers = allAnswers(x);
        for (int i = 0; i < answers.length; i++) {
            due(NAMES[i / 64] + " of " + i % 64 + " after " + call, answers[i], MIXED_ANSWERS[i]);
        }
    }

    private static void dueFlatHeights(String what, FloodTerrain x, int height) {
        for (int cell = 0; cell < 64; cell++) {
            due(what + ": height(" + cell + ")", x.height(cell), height);
        }
    }

    // What it is

    private static void the512thCallIsStillAnswered() {
        sentence("What it is: at most 512 calls after it has been made");
        FloodTerrain x = new FloodTerrain();
        for (int call = 1; call < 512; call++) {
            due("call " + call + ", set(27, " + call % 100 + ")", x.set(27, call % 100), (call - 1) % 100);
        }
        due("call 512, height(27)", x.height(27), 11);
        FloodTerrain y = bowl(99, 0);
        for (int call = 4; call < 512; call++) {
            due("call " + call + ", volume()", y.volume(), 36 * 99);
        }
        due("call 512, volume()", y.volume(), 36 * 99);
    }

    // Terms

    private static void neighboursAreUpToFour() {
        sentence("Terms: NEIGHBOURS are the up to four cells beside, above and below it");
        for (int a = 0; a < 64; a++) {
            int neighbours = 0;
            for (int b = 0; b < 64; b++) {
                String pair = a + " and " + b;
                int together = a == b || !beside(a, b) ? 1 : 2;
                int reached = flatBut(1, a, 0, b, 0).reach(a, 0);
                due("reach along " + pair, reached, together);
                due("pass along " + pair, flatBut(1, a, 0, b, 0).pass(a, b), a == b || beside(a, b) ? 0 : 1);
                due("summits at " + pair, flatBut(0, a, 1, b, 1).summits(), a == b || beside(a, b) ? 1 : 2);
                due("prominence at " + pair, flatBut(0, a, 1, b, 2).prominence(a),
                    a == b ? 2 : beside(a, b) ? 0 : 1);
                neighbours += reached == 2 ? 1 : 0;
            }
            int sides = (a / 8 % 7 == 0 ? 1 : 0) + (a % 8 % 7 == 0 ? 1 : 0);
            due("neighbours of " + a, neighbours, 4 - sides);
        }
    }

    private static void lakesHangTogetherByNeighbours() {
        sentence("Terms: cells of depth above 0 that hang together by neighbours");
        for (int a = 0; a < 64; a++) {
            for (int b = 0; b < 64; b++) {
                FloodTerrain x = flatBut(1, a, 0, b, 0);
                String pair = a + " and " + b;
                boolean wetA = !border(a) && !(border(b) && beside(a, b));
                boolean wetB = !border(b) && !(border(a) && beside(a, b));
                boolean one = wetA && wetB && beside(a, b);
                int lakes = a == b || one ? (wetA ? 1 : 0) : (wetA ? 1 : 0) + (wetB ? 1 : 0);
                due("lakes at " + pair, x.lakes(), lakes);
                due("lakeSize at " + pair, x.lakeSize(a), !wetA ? 0 : one ? 2 : 1);
            }
        }
    }

    private static void borderIsRowOrColumn0Or7() {
        sentence("Terms: BORDER cells are those in row 0 or 7 or column 0 or 7");
        for (int cell = 0; cell < 64; cell++) {
            FloodTerrain x = flatBut(99, cell, 0, cell, 0);
            due("level of a hole at " + cell, x.level(cell), border(cell) ? 0 : 99);
            due("volume of a hole at " + cell, x.volume(), border(cell) ? 0 : 99);
            due("lakes of a hole at " + cell, x.lakes(), border(cell) ? 0 : 1);
            due("lakeSize of a hole at " + cell, x.lakeSize(cell), border(cell) ? 0 : 1);
        }
    }

    private static void borderLevelIsItsOwnHeight() {
        sentence("Terms: a border cell's level is its own height");
        for (int cell = 0; cell < 64; cell++) {
            if (!border(cell)) {
                continue;
            }
            for (int height : EDGE_HEIGHTS) {
                for (int around : new int[] {0, 50, 99}) {
                    FloodTerrain x = flatBut(around, cell, height, cell, height);
                    due("level(" + cell + "), " + height + " amid " + around, x.level(cell), height);
                    due("lakeSize(" + cell + "), " + height + " amid " + around, x.lakeSize(cell), 0);
                }
            }
        }
    }

    // 21 cells inside in one line, from the border cell 1 to the cell 54.
    private static final String[] CORRIDOR = {
        "#.######",
        "#......#",
        "######.#",
        "#......#",
        "#.######",
        "#......#",
        "######.#",
        "########"};

    /** The place of a cell when the terrain is turned and mirrored, in one of eight ways. */
    private static int turned(int cell, int turn) {
        int row = (turn & 1) == 0 ? cell / 8 : 7 - cell / 8;
        int column = (turn & 2) == 0 ? cell % 8 : 7 - cell % 8;
        return (turn & 4) == 0 ? row * 8 + column : column * 8 + row;
    }

    private static FloodTerrain corridor(int turn, int wall, int floor) {
        FloodTerrain x = flat(wall);
        for (int cell = 0; cell < 64; cell++) {
            if (CORRIDOR[cell / 8].charAt(cell % 8) == '.') {
                x.set(turned(cell, turn), floor);
            }
        }
        return x;
    }

    private static void longWaysAreFoundInAnyTurn() {
        sentence("Terms: A WAY is a list of cells each of which is a neighbour of the one before");
        for (int turn = 0; turn < 8; turn++) {
            int start = turned(1, turn);
            int end = turned(54, turn);
            FloodTerrain x = corridor(turn, 99, 0);
            due("pass, turn " + turn, x.pass(start, end), 0);
            due("pass back, turn " + turn, x.pass(end, start), 0);
            due("reach, turn " + turn, x.reach(start, 98), 22);
            due("reach back, turn " + turn, x.reach(end, 0), 22);
            due("level, turn " + turn, x.level(end), 0);
            due("lakes, turn " + turn, x.lakes(), 0);
            x.set(start, 98);
            due("level, exit raised, turn " + turn, x.level(end), 98);
            due("volume, exit raised, turn " + turn, x.volume(), 21 * 98);
            due("lakes, exit raised, turn " + turn, x.lakes(), 1);
            due("lakeSize, exit raised, turn " + turn, x.lakeSize(end), 21);
            due("pass, exit raised, turn " + turn, x.pass(end, start), 98);
            FloodTerrain ridge = corridor(turn, 0, 50);
            due("summits, one ridge, turn " + turn, ridge.summits(), 1);
            ridge.set(start, 99);
            due("summits, a higher start, turn " + turn, ridge.summits(), 1);
            due("prominence of the far end, turn " + turn, ridge.prominence(end), 0);
            ridge.set(turned(11, turn), 20);
            due("summits, a gap, turn " + turn, ridge.summits(), 2);
            due("prominence of the far end, a gap, turn " + turn, ridge.prominence(end), 30);
        }
    }

    private static void waysEndsCountIn() {
        sentence("Terms: its CREST is the greatest height on it, its ends counted in");
        due("pass, start higher", flatBut(10, 20, 70, 44, 10).pass(20, 44), 70);
        due("pass, end higher", flatBut(10, 20, 70, 44, 10).pass(44, 20), 70);
        due("pass, both higher", flatBut(10, 20, 70, 44, 80).pass(20, 44), 80);
        due("pass, both higher, back", flatBut(10, 20, 70, 44, 80).pass(44, 20), 80);
        due("pass, both lower", flatBut(10, 20, 3, 44, 4).pass(20, 44), 10);
        due("pass to a neighbour, start higher", flatBut(10, 20, 70, 21, 5).pass(20, 21), 70);
        due("pass to a neighbour, both lower", flatBut(10, 20, 6, 21, 5).pass(20, 21), 6);
        due("level, start higher", flatBut(10, 20, 70, 44, 10).level(20), 70);
        due("level, end higher", bowl(99, 0).level(27), 99);
        due("volume, a spike has no depth", flatBut(10, 20, 70, 44, 99).volume(), 0);
    }

    private static void depthAbove0MakesALake() {
        sentence("Terms: A LAKE is a set of cells of depth above 0");
        for (int around : new int[] {1, 50, 99}) {
            FloodTerrain shallow = flatBut(around, 27, around - 1, 27, around - 1);
            due("lakes, depth 1 below " + around, shallow.lakes(), 1);
            due("lakeSize, depth 1 below " + around, shallow.lakeSize(27), 1);
            due("volume, depth 1 below " + around, shallow.volume(), 1);
            due("lakeSize beside it, depth 0", shallow.lakeSize(26), 0);
        }
        // A sill as high as the water parts two lakes; one lower by 1 joins them.
        FloodTerrain x = flatBut(50, 26, 40, 28, 40);
        due("lakes at a sill of depth 0", x.lakes(), 2);
        due("lakeSize at the sill", x.lakeSize(27), 0);
        due("lakeSize before the sill", x.lakeSize(26), 1);
        x.set(27, 49);
        due("lakes at a sill of depth 1", x.lakes(), 1);
        due("lakeSize at the sunk sill", x.lakeSize(27), 3);
        due("lakeSize before the sunk sill", x.lakeSize(26), 3);
    }

    private static void questionsChangeNothing() {
        sentence("Terms: The calls below change nothing that any call answers");
        due("mixed().lakes() > 1", mixed().lakes() > 1 ? 1 : 0, 1);
        due("mixed().summits() > 1", mixed().summits() > 1 ? 1 : 0, 1);
        for (int question = 0; question < QUESTIONS.length; question++) {
            for (int cell : new int[] {0, 27, 63, -1, 64, MIN, MAX}) {
                FloodTerrain x = mixed();
                QUESTIONS[question].ask(x, cell);
                dueUnchanged(NAMES[question] + " of " + cell, x);
            }
            for (int next = 0; next < QUESTIONS.length; next++) {
                FloodTerrain x = mixed();
                QUESTIONS[question].ask(x, 45);
                String call = NAMES[next] + " of 28 after " + NAMES[question] + " of 45";
                due(call, QUESTIONS[next].ask(x, 28), MIXED_ANSWERS[next * 64 + (asksAboutCell(next) ? 28 : 0)]);
            }
        }
        // Nor what the calls answer that change heights.
        FloodTerrain x = mixed();
        for (Question question : QUESTIONS) {
            question.ask(x, 45);
        }
        due("set(45, 99) after questions", x.set(45, 99), 99);
        due("shift of one at 99 after questions", x.shift(45, 45, 1), 0);
        due("shift of two at 0 after questions", x.shift(27, 28, -1), 0);
        due("shift of three, one of them at 99, after questions", x.shift(45, 43, 1), 2);
    }

    private static void questionsLeaveNothingForLater() {
        sentence("Terms: The calls below change nothing that any call answers, after a change of heights");
        for (int number = 0; number < 8; number++) {
            FloodTerrain x = mixed();
            for (Question question : QUESTIONS) {
                question.ask(x, 27);
            }
            // Brought to the same heights as an object that nothing was asked before.
            FloodTerrain fresh = terrainNumber(number);
            x.pattern(0, 0);
            for (int cell = 0; cell < 64; cell++) {
                x.set(cell, fresh.height(cell));
            }
            int[] got = allAnswers(x);
            int[] want = allAnswers(terrainNumber(number));
            for (int i = 0; i < got.length; i++) {
                due(NAMES[i / 64] + " of " + i % 64 + " on terrain " + number, got[i], want[i]);
            }
        }
    }

    private static void badCellFirst() {
        sentence("Terms: BAD_CELL first");
        for (int cell : NO_CELLS) {
            for (int crest : new int[] {MIN, -1, 0, 50, 99, 100, MAX}) {
                due("reach(" + cell + ", " + crest + ")", mixed().reach(cell, crest), BAD_CELL);
                due("new: reach(" + cell + ", " + crest + ")", new FloodTerrain().reach(cell, crest), BAD_CELL);
            }
        }
    }

    // Promise 1

    private static void newObjectHasAllHeights0() {
        sentence("1: All heights 0");
        FloodTerrain other = flat(99);
        FloodTerrain x = new FloodTerrain();
        dueFlatHeights("new", x, 0);
        other.pattern(1, 1);
        dueFlatHeights("new, another one changed", x, 0);
        for (int cell = 0; cell < 64; cell++) {
            due("new: set(" + cell + ", 1)", new FloodTerrain().set(cell, 1), 0);
        }
        due("new: shift down", new FloodTerrain().shift(0, 63, -99), 0);
        due("new: shift up", new FloodTerrain().shift(0, 63, 1), 64);
    }

    // Promise 2

    private static void setRefusesNoCell() {
        sentence("2: cell not in 0 to 63: BAD_CELL");
        for (int cell : NO_CELLS) {
            for (int height : new int[] {0, 1, 99}) {
                due("set(" + cell + ", " + height + ")", mixed().set(cell, height), BAD_CELL);
            }
        }
        for (int cell = 0; cell < 64; cell++) {
            FloodTerrain x = new FloodTerrain();
            due("set(" + cell + ", 99)", x.set(cell, 99), 0);
            due("height(" + cell + ")", x.height(cell), 99);
        }
    }

    private static void setRefusesNoHeight() {
        sentence("2: height not in 0 to 99: BAD_HEIGHT");
        for (int height : NO_HEIGHTS) {
            for (int cell : new int[] {0, 7, 27, 56, 63}) {
                due("set(" + cell + ", " + height + ")", mixed().set(cell, height), BAD_HEIGHT);
            }
        }
        for (int height = 0; height < 100; height++) {
            FloodTerrain x = new FloodTerrain();
            due("set(63, " + height + ")", x.set(63, height), 0);
            due("height(63)", x.height(63), height);
        }
    }

    private static void refusedSetChangesNothing() {
        sentence("2: nothing changes then");
        for (int cell : NO_CELLS) {
            FloodTerrain x = mixed();
            x.set(cell, 0);
            x.set(cell, 50);
            x.set(cell, 99);
            dueUnchanged("set(" + cell + ", ..)", x);
        }
        for (int height : NO_HEIGHTS) {
            FloodTerrain x = mixed();
            for (int cell : new int[] {0, 7, 9, 27, 45, 54, 56, 63}) {
                x.set(cell, height);
            }
            dueUnchanged("set(.., " + height + ")", x);
        }
    }

    private static void setAnswersTheOldHeight() {
        sentence("2: Else answers the old one");
        for (int cell : new int[] {0, 7, 27, 56, 63}) {
            for (int old = 0; old < 100; old++) {
                FloodTerrain x = new FloodTerrain();
                x.set(cell, old);
                due("set(" + cell + ", same)", x.set(cell, old), old);
                due("set(" + cell + ", " + (99 - old) + ")", x.set(cell, 99 - old), old);
                due("set(" + cell + ", again)", x.set(cell, 0), 99 - old);
            }
        }
        FloodTerrain x = flat(50);
        x.set(27, -1);
        x.set(27, 100);
        due("set(27, 1) after refused ones", x.set(27, 1), 50);
    }

    // Promise 3

    private static void shiftTakesCornersInEitherOrder() {
        sentence("3: given by two cells at its corners (in either order)");
        for (int a = 0; a < 64; a++) {
            for (int b = 0; b < 64; b++) {
                String call = "shift(" + a + ", " + b + ", 1)";
                FloodTerrain x = new FloodTerrain();
                int rows = Math.abs(a / 8 - b / 8) + 1;
                int columns = Math.abs(a % 8 - b % 8) + 1;
                due(call, x.shift(a, b, 1), rows * columns);
                for (int cell = 0; cell < 64; cell++) {
                    boolean inRows = (cell / 8 - a / 8) * (cell / 8 - b / 8) <= 0;
                    boolean inColumns = (cell % 8 - a % 8) * (cell % 8 - b % 8) <= 0;
                    due("height(" + cell + ") after " + call, x.height(cell), inRows && inColumns ? 1 : 0);
                }
            }
        }
    }

    private static void shiftStaysWithin0And99() {
        sentence("3: a height does not go below 0 or above 99");
        int[] mores = {
            MIN, MIN + 1, MIN + 98, MIN + 99, MIN + 100, -65536, -256, -100, -99, -98, -50, -2, -1,
            0, 1, 2, 50, 98, 99, 100, 256, 65536, MAX - 100, MAX - 99, MAX - 98, MAX - 1, MAX};
        for (int more : mores) {
            for (int height = 0; height < 100; height++) {
                long sum = (long) height + more;
                int want = sum < 0 ? 0 : sum > 99 ? 99 : (int) sum;
                String call = "shift(27, 27, " + more + ") at " + height;
                FloodTerrain x = flatBut(50, 27, height, 27, height);
                due(call, x.shift(27, 27, more), want == height ? 0 : 1);
                due(call + ": height(27)", x.height(27), want);
                due(call + ": height(28)", x.height(28), 50);
            }
        }
    }

    private static void shiftRefusesNoCell() {
        sentence("3: a or b not in 0 to 63: BAD_CELL");
        for (int cell : NO_CELLS) {
            for (int more : new int[] {MIN, -1, 0, 1, MAX}) {
                due("shift(" + cell + ", 0, " + more + ")", mixed().shift(cell, 0, more), BAD_CELL);
                due("shift(" + cell + ", 63, " + more + ")", mixed().shift(cell, 63, more), BAD_CELL);
                due("shift(0, " + cell + ", " + more + ")", mixed().shift(0, cell, more), BAD_CELL);
                due("shift(63, " + cell + ", " + more + ")", mixed().shift(63, cell, more), BAD_CELL);
                due("shift(" + cell + " twice, " + more + ")", mixed().shift(cell, cell, more), BAD_CELL);
            }
        }
        for (int corner : CORNERS) {
            due("shift(" + corner + ", " + (63 - corner) + ", 1)", new FloodTerrain().shift(corner, 63 - corner, 1), 64);
            due("shift(" + corner + " twice, 1)", new FloodTerrain().shift(corner, corner, 1), 1);
        }
    }

    private static void refusedShiftChangesNothing() {
        sentence("3: nothing changes");
        for (int cell : NO_CELLS) {
            FloodTerrain x = mixed();
            for (int more : new int[] {MIN, -1, 1, MAX}) {
                x.shift(cell, 0, more);
                x.shift(cell, 63, more);
                x.shift(0, cell, more);
                x.shift(63, cell, more);
                x.shift(27, cell, more);
                x.shift(cell, cell, more);
            }
            dueUnchanged("shift at " + cell, x);
        }
    }

    private static void shiftAnswersHowManyChanged() {
        sentence("3: Else answers how many cells have another height now");
        due("by 0", mixed().shift(0, 63, 0), 0);
        due("down, all at 0", flat(0).shift(0, 63, -1), 0);
        due("down by the least int, all at 0", flat(0).shift(0, 63, MIN), 0);
        due("up, all at 99", flat(99).shift(0, 63, 1), 0);
        due("up by the greatest int, all at 99", flat(99).shift(0, 63, MAX), 0);
        due("up, all at 98", flat(98).shift(0, 63, MAX), 64);
        due("down, all at 1", flat(1).shift(0, 63, MIN), 64);
        // 28 cells of the border stay at their limit, the 36 inside move.
        due("up, the border at 99", bowl(99, 98).shift(0, 63, 2), 36);
        due("down, the border at 0", bowl(0, 1).shift(0, 63, -2), 36);
        due("down, the floor at 0", bowl(99, 0).shift(0, 63, -1), 28);
        // What counts is the height before this call, not one before that.
        FloodTerrain x = flat(50);
        due("up", x.shift(0, 63, 7), 64);
        due("down again", x.shift(0, 63, -7), 64);
        due("half a step at the top", x.shift(0, 63, 48), 64);
        due("cut off at the top", x.shift(0, 63, 48), 64);
        due("at the top", x.shift(0, 63, 48), 0);
    }

    // Promise 4

    private static void patternIsForAll64CellsWrapping() {
        sentence("4: for all 64 cells (wrapping)");
        int[] numbers = {
            MIN, MIN + 1, MIN + 63, -65, -64, -63, -2, -1, 0, 1, 2, 8, 31, 32, 33, 62, 63, 64, 65, 127, 128,
            34087043, 1 << 25, 1 << 26, 1 << 30, MAX - 63, MAX - 1, MAX};
        for (int factor : numbers) {
            for (int start : numbers) {
                FloodTerrain x = flat(99);
                x.pattern(factor, start);
                for (int cell = 0; cell < 64; cell++) {
                    int want = (int) Math.floorMod((long) cell * factor + start, 64L);
                    due("height(" + cell + ") after pattern(" + factor + ", " + start + ")", x.height(cell), want);
                }
            }
        }
        // Worked out by hand: 63 * (2^31 - 1) + 2^31 - 1 is 2^37 - 64, and -(2^31) is 0 in its low bits.
        FloodTerrain x = new FloodTerrain();
        x.pattern(MAX, MAX);
        due("height(63) after pattern(MAX, MAX)", x.height(63), 0);
        due("height(0) after pattern(MAX, MAX)", x.height(0), 63);
        x.pattern(MIN, 5);
        due("height(63) after pattern(MIN, 5)", x.height(63), 5);
        x.pattern(1, MIN);
        due("height(63) after pattern(1, MIN)", x.height(63), 63);
        x.pattern(-1, 0);
        due("height(1) after pattern(-1, 0)", x.height(1), 63);
        due("height(63) after pattern(-1, 0)", x.height(63), 1);
    }

    // Promises 5 to 12: BAD_CELL

    private static void dueBadCells(String promise, int question) {
        sentence(promise);
        for (int cell : NO_CELLS) {
            String call = NAMES[question] + " of " + cell;
            due("new: " + call, QUESTIONS[question].ask(new FloodTerrain(), cell), BAD_CELL);
            due("flat: " + call, QUESTIONS[question].ask(flat(99), cell), BAD_CELL);
            due("mixed: " + call, QUESTIONS[question].ask(mixed(), cell), BAD_CELL);
        }
        for (int cell = 0; cell < 64; cell++) {
            int answer = QUESTIONS[question].ask(mixed(), cell);
            due(NAMES[question] + " of " + cell + " is no BAD_CELL", answer < 0 ? answer : 0, 0);
        }
    }

    private static void heightKnowsAllHeights() {
        dueBadCells("5: The cell's height, BAD_CELL first", 0);
        for (int height = 0; height < 100; height++) {
            dueFlatHeights("flat " + height, flat(height), height);
        }
        for (int cell = 0; cell < 64; cell++) {
            due("height(" + cell + ") alone at 99", flatBut(0, cell, 99, cell, 99).height(cell), 99);
            due("height(" + cell + ") alone at 0", flatBut(99, cell, 0, cell, 0).height(cell), 0);
        }
    }

    private static void levelAtItsEdges() {
        dueBadCells("6: The cell's level, BAD_CELL first", 1);
        for (int height = 0; height < 100; height++) {
            for (int cell : new int[] {0, 9, 27, 54, 63}) {
                due("flat " + height + ": level(" + cell + ")", flat(height).level(cell), height);
                int want = border(cell) ? height : 99;
                due("bowl: level(" + cell + ")", flatBut(99, cell, height, cell, height).level(cell), want);
            }
        }
    }

    private static void volumeAtItsEdges() {
        sentence("7: The sum of all depths, from none to the most there can be");
        for (int height = 0; height < 100; height++) {
            due("flat " + height, flat(height).volume(), 0);
            due("bowl of " + height, bowl(height, 0).volume(), 36 * height);
            due("hill of " + height, bowl(0, height).volume(), 0);
            due("bowl filled to " + height, bowl(99, height).volume(), 36 * (99 - height));
        }
    }

    private static void lakesAtTheirEdges() {
        sentence("8: How many lakes there are, from none to the most there can be");
        due("new", new FloodTerrain().lakes(), 0);
        for (int height : EDGE_HEIGHTS) {
            due("flat " + height, flat(height).lakes(), 0);
            due("bowl of " + height, bowl(height, 0).lakes(), height == 0 ? 0 : 1);
            due("hill of " + height, bowl(0, height).lakes(), 0);
        }
        for (int odd = 0; odd < 2; odd++) {
            FloodTerrain x = flat(99);
            for (int cell = 0; cell < 64; cell++) {
                x.set(cell, (cell / 8 + cell % 8) % 2 == odd ? 98 : 99);
            }
            due("every second cell inside is a lake", x.lakes(), 18);
        }
    }

    private static void lakeSizeIs0InNoLake() {
        sentence("9: 0 if it is in none");
        for (int cell = 0; cell < 64; cell++) {
            due("new: lakeSize(" + cell + ")", new FloodTerrain().lakeSize(cell), 0);
            due("flat 99: lakeSize(" + cell + ")", flat(99).lakeSize(cell), 0);
            due("hill: lakeSize(" + cell + ")", bowl(0, 99).lakeSize(cell), 0);
            due("bowl: lakeSize(" + cell + ")", bowl(99, 0).lakeSize(cell), border(cell) ? 0 : 36);
            due("alone: lakeSize(" + cell + ")", flatBut(99, cell, 98, cell, 98).lakeSize(cell), border(cell) ? 0 : 1);
        }
        // A lake inside, and dry cells of the same height outside of it.
        FloodTerrain x = bowl(0, 50);
        x.set(27, 0);
        due("lakeSize(27)", x.lakeSize(27), 1);
        due("lakeSize(0)", x.lakeSize(0), 0);
        due("lakeSize(26)", x.lakeSize(26), 0);
    }

    private static void lakeSizeRefusesNoCell() {
        dueBadCells("9: BAD_CELL", 4);
    }

    private static void passRefusesNoCell() {
        dueBadCells("10: BAD_CELL", 5);
        for (int cell : NO_CELLS) {
            for (int good : new int[] {0, 27, 63}) {
                due("pass(" + cell + ", " + good + ")", mixed().pass(cell, good), BAD_CELL);
                due("pass(" + good + ", " + cell + ")", mixed().pass(good, cell), BAD_CELL);
            }
            for (int other : NO_CELLS) {
                due("pass(" + cell + ", " + other + ")", mixed().pass(cell, other), BAD_CELL);
            }
        }
    }

    private static void passAtItsEdges() {
        sentence("10: The least crest of a way from a to b, a and b the same, far apart, or walled in");
        for (int height = 0; height < 100; height++) {
            due("flat " + height, flat(height).pass(0, 63), height);
            due("flat " + height + ", to itself", flat(height).pass(27, 27), height);
            due(height + " amid 99, to itself", flatBut(99, 27, height, 27, height).pass(27, 27), height);
            due(height + " amid 0, to itself", flatBut(0, 27, height, 27, height).pass(27, 27), height);
            due("out of a bowl of " + height, bowl(height, 0).pass(27, 0), height);
            due("over a hill of " + height, bowl(0, height).pass(0, 63), 0);
        }
        for (int cell = 0; cell < 64; cell++) {
            due("pass(" + cell + " twice)", mixed().pass(cell, cell), mixed().height(cell));
            due("pass(" + cell + ", 36) is that back", mixed().pass(cell, 36), mixed().pass(36, cell));
        }
    }

    private static void reachIs0BelowTheStart() {
        sentence("11: 0 if crest is below a's height");
        for (int height = 0; height < 100; height++) {
            FloodTerrain x = flatBut(0, 27, height, 27, height);
            due("reach(27, " + (height - 1) + ") from " + height, x.reach(27, height - 1), 0);
            due("reach(27, -1) from " + height, x.reach(27, -1), 0);
            due("reach(27, MIN) from " + height, x.reach(27, MIN), 0);
            due("reach(27, " + height + ") from " + height, x.reach(27, height), 64);
        }
    }

    private static void reachCountsItsStart() {
        sentence("11: a counted in, whose pass from a is at most 'crest'");
        for (int cell = 0; cell < 64; cell++) {
            FloodTerrain x = flatBut(99, cell, 0, cell, 0);
            due("reach(" + cell + ", 0)", x.reach(cell, 0), 1);
            due("reach(" + cell + ", 98)", x.reach(cell, 98), 1);
            due("reach(" + cell + ", 99)", x.reach(cell, 99), 64);
            due("reach(" + cell + ", 100)", x.reach(cell, 100), 64);
            due("reach(" + cell + ", MAX)", x.reach(cell, MAX), 64);
        }
        for (int height = 1; height < 100; height++) {
            FloodTerrain x = bowl(height, 0);
            due("bowl of " + height + ", one below", x.reach(27, height - 1), 36);
            due("bowl of " + height + ", at it", x.reach(27, height), 64);
            due("bowl of " + height + ", from its rim", x.reach(0, height), 64);
        }
    }

    private static void reachRefusesNoCell() {
        dueBadCells("11: BAD_CELL", 6);
    }

    private static void prominenceWithNoHigherCell() {
        sentence("12: if no cell has a greater height, its height less the least height of all cells");
        for (int height = 0; height < 100; height++) {
            due("flat " + height, flat(height).prominence(27), 0);
            due("alone at 99 over " + height, flatBut(height, 27, 99, 27, 99).prominence(27), 99 - height);
            due("alone at " + height + " over 0", flatBut(0, 27, height, 27, height).prominence(27), height);
            due("top beside the hole", flatBut(99, 27, height, 27, height).prominence(28), 99 - height);
            due("top far off the hole", flatBut(99, 27, height, 27, height).prominence(63), 99 - height);
        }
        // The least height may be at any cell, even one that no way of equal height leads to.
        for (int hole = 0; hole < 64; hole++) {
            FloodTerrain x = flatBut(50, 27, 60, hole, 3);
            due("least height at " + hole, x.prominence(27), hole == 27 ? 0 : 57);
        }
        // A cell of equal height is not a greater one.
        FloodTerrain x = flatBut(10, 9, 80, 54, 80);
        due("one of two tops", x.prominence(9), 70);
        due("the other of two tops", x.prominence(54), 70);
        x.set(63, 2);
        due("one of two tops, a lower cell elsewhere", x.prominence(9), 78);
        due("the other of two tops, a lower cell elsewhere", x.prominence(54), 78);
        x.set(54, 81);
        due("no top any more", x.prominence(9), 70);
        due("the only top", x.prominence(54), 79);
    }

    private static void prominenceWithAHigherCell() {
        sentence("12: its height less the greatest value v, over cells all of which have at least height v");
        for (int height = 0; height < 99; height++) {
            due("a plain at " + height, flatBut(height, 27, 99, 27, 99).prominence(63), 0);
            due("beside 99 at " + height, flatBut(0, 27, 99, 28, height).prominence(28), 0);
            due("two steps from 99 at " + height, flatBut(0, 27, 99, 29, height).prominence(29), height);
            // The cell itself is on the way: v is never above its height.
            due("a hole at " + height, flatBut(99, 27, height, 27, height).prominence(27), 0);
        }
    }

    private static void prominenceRefusesNoCell() {
        dueBadCells("12: BAD_CELL", 7);
    }

    private static void summitsAtTheirEdges() {
        sentence("13: as large as possible, and have no neighbour that is higher");
        for (int height = 0; height < 100; height++) {
            due("flat " + height, flat(height).summits(), 1);
            due("hill of " + height, bowl(0, height).summits(), 1);
            due("bowl of " + height, bowl(height, 0).summits(), 1);
        }
        for (int odd = 0; odd < 2; odd++) {
            FloodTerrain x = flat(99);
            for (int cell = 0; cell < 64; cell++) {
                x.set(cell, (cell / 8 + cell % 8) % 2 == odd ? 98 : 99);
            }
            due("every second cell is a summit", x.summits(), 32);
        }
        for (int cell = 0; cell < 64; cell++) {
            due("spike at " + cell, flatBut(98, cell, 99, cell, 99).summits(), 1);
            due("hole at " + cell, flatBut(99, cell, 98, cell, 98).summits(), 1);
        }
        // One hole parts no set; two beside a corner cut it off, as a set of its own.
        due("corner cut off", flatBut(99, 1, 98, 8, 98).summits(), 2);
        due("last corner cut off", flatBut(99, 62, 98, 55, 98).summits(), 2);
    }

    private static void flatTerrainsAnswerAlike() {
        sentence("All promises: the terrain with all heights equal");
        for (int height = 0; height < 100; height++) {
            FloodTerrain x = flat(height);
            for (int cell = 0; cell < 64; cell++) {
                String at = " of " + cell + " on flat " + height;
                due("height" + at, x.height(cell), height);
                due("level" + at, x.level(cell), height);
                due("lakeSize" + at, x.lakeSize(cell), 0);
                due("pass" + at, x.pass(cell, 63 - cell), height);
                due("reach" + at, x.reach(cell, height), 64);
                due("reach, one lower," + at, x.reach(cell, height - 1), 0);
                due("prominence" + at, x.prominence(cell), 0);
            }
            due("volume on flat " + height, x.volume(), 0);
            due("lakes on flat " + height, x.lakes(), 0);
            due("summits on flat " + height, x.summits(), 1);
        }
    }

    // Promise 14

    private static void setTestsTheCellFirst() {
        sentence("14: set: BAD_CELL is tested before BAD_HEIGHT");
        for (int cell : NO_CELLS) {
            for (int height : NO_HEIGHTS) {
                FloodTerrain x = new FloodTerrain();
                due("set(" + cell + ", " + height + ")", x.set(cell, height), BAD_CELL);
            }
        }
        due("BAD_CELL", FloodTerrain.BAD_CELL, BAD_CELL);
        due("BAD_HEIGHT", FloodTerrain.BAD_HEIGHT, BAD_HEIGHT);
    }

    private static void notNone(String call, int got) {
        due(call + " is NONE", got == NONE ? 1 : 0, 0);
    }

    private static FloodTerrain terrainNumber(int number) {
        switch (number) {
            case 0: return new FloodTerrain();
            case 1: return flat(3);
            case 2: return flat(99);
            case 3: return bowl(99, 0);
            case 4: return bowl(0, 99);
            case 5: return bowl(3, 0);
            case 6: return bowl(0, 3);
            default: return mixed();
        }
    }

    private static void noneIsAnsweredByNoCall() {
        sentence("14: NONE is answered by no call");
        due("NONE", FloodTerrain.NONE, NONE);
        int[] cells = {MIN, -64, -3, -1, 0, 7, 9, 27, 45, 63, 64, MAX};
        int[] numbers = {MIN, -100, -3, -1, 0, 3, 50, 99, 100, MAX};
        for (int number = 0; number < 8; number++) {
            FloodTerrain asked = terrainNumber(number);
            for (int question = 0; question < QUESTIONS.length; question++) {
                for (int cell : cells) {
                    notNone(NAMES[question] + " of " + cell, QUESTIONS[question].ask(asked, cell));
                }
            }
            for (int cell : cells) {
                FloodTerrain x = terrainNumber(number);
                for (int value : numbers) {
                    notNone("set(" + cell + ", " + value + ")", x.set(cell, value));
                    notNone("reach(" + cell + ", " + value + ")", x.reach(cell, value));
                }
                for (int other : cells) {
                    notNone("pass(" + cell + ", " + other + ")", x.pass(cell, other));
                    notNone("shift(" + cell + ", " + other + ", 3)", x.shift(cell, other, 3));
                    notNone("shift(" + cell + ", " + other + ", -3)", x.shift(cell, other, -3));
                    notNone("shift(" + cell + ", " + other + ", MIN)", x.shift(cell, other, MIN));
                    notNone("shift(" + cell + ", " + other + ", MAX)", x.shift(cell, other, MAX));
                }
            }
        }
    }

    private static void run(Runnable test) {
        // A call that throws breaks its sentence, and the rest is tested all the same.
        try {
            test.run();
        } catch (RuntimeException thrown) {
            wrong++;
            System.out.println("[" + sentence + "] a call threw " + thrown);
        }
    }

    public static void main(String[] args) {
        run(BoundaryTests::the512thCallIsStillAnswered);
        run(BoundaryTests::neighboursAreUpToFour);
        run(BoundaryTests::lakesHangTogetherByNeighbours);
        run(BoundaryTests::borderIsRowOrColumn0Or7);
        run(BoundaryTests::borderLevelIsItsOwnHeight);
        run(BoundaryTests::longWaysAreFoundInAnyTurn);
        run(BoundaryTests::waysEndsCountIn);
        run(BoundaryTests::depthAbove0MakesALake);
        run(BoundaryTests::questionsChangeNothing);
        run(BoundaryTests::questionsLeaveNothingForLater);
        run(BoundaryTests::badCellFirst);
        run(BoundaryTests::newObjectHasAllHeights0);
        run(BoundaryTests::setRefusesNoCell);
        run(BoundaryTests::setRefusesNoHeight);
        run(BoundaryTests::refusedSetChangesNothing);
        run(BoundaryTests::setAnswersTheOldHeight);
        run(BoundaryTests::shiftTakesCornersInEitherOrder);
        run(BoundaryTests::shiftStaysWithin0And99);
        run(BoundaryTests::shiftRefusesNoCell);
        run(BoundaryTests::refusedShiftChangesNothing);
        run(BoundaryTests::shiftAnswersHowManyChanged);
        run(BoundaryTests::patternIsForAll64CellsWrapping);
        run(BoundaryTests::heightKnowsAllHeights);
        run(BoundaryTests::levelAtItsEdges);
        run(BoundaryTests::volumeAtItsEdges);
        run(BoundaryTests::lakesAtTheirEdges);
        run(BoundaryTests::lakeSizeIs0InNoLake);
        run(BoundaryTests::lakeSizeRefusesNoCell);
        run(BoundaryTests::passRefusesNoCell);
        run(BoundaryTests::passAtItsEdges);
        run(BoundaryTests::reachIs0BelowTheStart);
        run(BoundaryTests::reachCountsItsStart);
        run(BoundaryTests::reachRefusesNoCell);
        run(BoundaryTests::prominenceWithNoHigherCell);
        run(BoundaryTests::prominenceWithAHigherCell);
        run(BoundaryTests::prominenceRefusesNoCell);
        run(BoundaryTests::summitsAtTheirEdges);
        run(BoundaryTests::flatTerrainsAnswerAlike);
        run(BoundaryTests::setTestsTheCellFirst);
        run(BoundaryTests::noneIsAnsweredByNoCall);
        System.out.println(sentences + " sentences: "
            + (wrong == 0 ? "all answers are as due" : wrong + " answers are not as due"));
        if (wrong != 0) {
            System.exit(1);
        }
    }
}
