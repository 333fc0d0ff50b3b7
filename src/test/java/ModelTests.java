/** Long runs of calls, each answer held against a model that follows the document's words one by one. */
public final class ModelTests {
    private static final int RUNS = 30;
    private static final int CALLS = 512;

    private static int wrong = 0;
    // A fixed sequence of numbers, so that every run of this test is the same.
    private static long sequence = 20261115L;

    private static int next(int bound) {
        sequence = sequence * 6364136223846793005L + 1442695040888963407L;
        return (int) ((sequence >>> 33) % bound);
    }

    /** The terrain as the document tells it, with plain flooding at every height in turn. */
    private static final class Model {
        private final int[] heights = new int[64];

        boolean bad(int cell) {
            return cell < 0 || cell > 63;
        }

        boolean border(int cell) {
            return cell < 8 || cell >= 56 || cell % 8 == 0 || cell % 8 == 7;
        }

        boolean beside(int a, int b) {
            return Math.abs(a / 8 - b / 8) + Math.abs(a % 8 - b % 8) == 1;
        }

        /** The allowed cells to which a way over allowed cells leads from the start. */
        boolean[] flood(int start, boolean[] allowed) {
            boolean[] seen = new boolean[64];
            if (!allowed[start]) {
                return seen;
            }
            int[] list = new int[64];
            int length = 1;
            list[0] = start;
            seen[start] = true;
            for (int i = 0; i < length; i++) {
                for (int cell = 0; cell < 64; cell++) {
                    if (allowed[cell] && !seen[cell] && beside(list[i], cell)) {
                        seen[cell] = true;
                        list[length++] = cell;
                    }
                }
            }
            return seen;
        }

        boolean[] within(int least, int greatest) {
            boolean[] cells = new boolean[64];
            for (int cell = 0; cell < 64; cell++) {
                cells[cell] = heights[cell] >= least && heights[cell] <= greatest;
            }
            return cells;
        }

        int count(boolean[] cells) {
            int count = 0;
            for (boolean cell : cells) {
                count += cell ? 1 : 0;
            }
            return count;
        }

        int set(int cell, int height) {
            if (bad(cell)) {
                return -1;
            }
            if (height < 0 || height > 99) {
                return -2;
            }
            int old = heights[cell];
            heights[cell] = height;
            return old;
        }

        int shift(int a, int b, int more) {
            if (bad(a) || bad(b)) {
                return -1;
            }
            int changed = 0;
            for (int cell = 0; cell < 64; cell++) {
                boolean inRows = (cell / 8 - a / 8) * (cell / 8 - b / 8) <= 0;
                boolean inColumns = (cell % 8 - a % 8) * (cell % 8 - b % 8) <= 0;
                if (inRows && inColumns) {
                    int height = (int) Math.max(0L, Math.min(99L, (long) heights[cell] + more));
                    changed += height == heights[cell] ? 0 : 1;
                    heights[cell] = height;
                }
            }
            return changed;
        }

        void pattern(int factor, int start) {
            for (int cell = 0; cell < 64; cell++) {
                heights[cell] = Math.floorMod(cell * factor + start, 64);
            }
        }

        int level(int cell) {
            if (bad(cell)) {
                return -1;
            }
            for (int crest = 0; crest < 100; crest++) {
                boolean[] seen = flood(cell, within(0, crest));
                for (int other = 0; other < 64; other++) {
                    if (seen[other] && border(other)) {
                        return crest;
                    }
                }
            }
            throw new IllegalStateException("no way to the border");
        }

        boolean[] wet() {
            boolean[] wet = new boolean[64];
            for (int cell = 0; cell < 64; cell++) {
                wet[cell] = level(cell) > heights[cell];
            }
            return wet;
        }

        int volume() {
            int sum = 0;
            for (int cell = 0; cell < 64; cell++) {
                sum += level(cell) - heights[cell];
            }
            return sum;
        }

        int lakes() {
            boolean[] wet = wet();
            int lakes = 0;
            for (int cell = 0; cell < 64; cell++) {
                if (wet[cell]) {
                    lakes++;
                    boolean[] lake = flood(cell, wet);
                    for (int other = 0; other < 64; other++) {
                        wet[other] &= !lake[other];
                    }
                }
            }
            return lakes;
        }

        int lakeSize(int cell) {
            return bad(cell) ? -1 : count(flood(cell, wet()));
        }

        int pass(int a, int b) {
            if (bad(a) || bad(b)) {
                return -1;
            }
            int crest = 0;
            while (!flood(a, within(0, crest))[b]) {
                crest++;
            }
            return crest;
        }

        int reach(int a, int crest) {
            return bad(a) ? -1 : count(flood(a, within(0, crest)));
        }

        int prominence(int cell) {
            if (bad(cell)) {
                return -1;
            }
            for (int v = 99; v >= 0; v--) {
                boolean[] seen = flood(cell, within(v, 99));
                for (int other = 0; other < 64; other++) {
                    if (seen[other] && heights[other] > heights[cell]) {
                        return heights[cell] - v;
                    }
                }
            }
            int least = 99;
            for (int height : heights) {
                least = Math.min(least, height);
            }
            return heights[cell] - least;
        }

        int summits() {
            int summits = 0;
            boolean[] counted = new boolean[64];
            for (int cell = 0; cell < 64; cell++) {
                if (counted[cell]) {
                    continue;
                }
                boolean[] set = flood(cell, within(heights[cell], heights[cell]));
                boolean highest = true;
                for (int a = 0; a < 64; a++) {
                    counted[a] |= set[a];
                    for (int b = 0; b < 64; b++) {
                        highest &= !(set[a] && beside(a, b) && heights[b] > heights[a]);
                    }
                }
                summits += highest ? 1 : 0;
            }
            return summits;
        }
    }

    private static void due(int run, String call, int got, int want) {
        if (got != want) {
            wrong++;
            System.out.println("run " + run + ": " + call + " answered " + got + ", due is " + want);
        }
    }

    /** Mostly a cell, at times one just outside or far off. */
    private static int someCell() {
        switch (next(80)) {
            case 0: return -1 - next(3);
            case 1: return 64 + next(3);
            case 2: return Integer.MIN_VALUE;
            case 3: return Integer.MAX_VALUE;
            default: return next(64);
        }
    }

    /** A few heights in some runs, so that equal ones meet; all of them in others. */
    private static int someHeight(int run) {
        int kind = next(40);
        if (kind == 0) {
            return next(2) == 0 ? -1 - next(3) : 100 + next(3);
        }
        return run % 3 == 0 ? next(4) : run % 3 == 1 ? next(12) * 9 : next(100);
    }

    private static int someMore(int run) {
        int kind = next(20);
        if (kind == 0) {
            return next(2) == 0 ? Integer.MAX_VALUE : Integer.MIN_VALUE;
        }
        return run % 3 == 0 ? next(5) - 2 : next(61) - 30;
    }

    private static void change(int run, FloodTerrain x, Model m) {
        int a = someCell();
        int b = someCell();
        if (next(8) == 0) {
            int more = someMore(run);
            due(run, "shift(" + a + ", " + b + ", " + more + ")", x.shift(a, b, more), m.shift(a, b, more));
        } else {
            int height = someHeight(run);
            due(run, "set(" + a + ", " + height + ")", x.set(a, height), m.set(a, height));
        }
    }

    private static void ask(int run, FloodTerrain x, Model m) {
        int a = someCell();
        int b = someCell();
        int crest = someHeight(run);
        switch (next(9)) {
            case 0: due(run, "height(" + a + ")", x.height(a), m.bad(a) ? -1 : m.heights[a]); break;
            case 1: due(run, "level(" + a + ")", x.level(a), m.level(a)); break;
            case 2: due(run, "volume()", x.volume(), m.volume()); break;
            case 3: due(run, "lakes()", x.lakes(), m.lakes()); break;
            case 4: due(run, "lakeSize(" + a + ")", x.lakeSize(a), m.lakeSize(a)); break;
            case 5: due(run, "pass(" + a + ", " + b + ")", x.pass(a, b), m.pass(a, b)); break;
            case 6: due(run, "reach(" + a + ", " + crest + ")", x.reach(a, crest), m.reach(a, crest)); break;
            case 7: due(run, "prominence(" + a + ")", x.prominence(a), m.prominence(a)); break;
            default: due(run, "summits()", x.summits(), m.summits()); break;
        }
    }

    private static void start(int run, FloodTerrain x, Model m) {
        if (run % 3 == 2) {
            int factor = next(1 << 30) * (next(2) * 2 - 1);
            int start = next(1 << 30) * (next(2) * 2 - 1);
            x.pattern(factor, start);
            m.pattern(factor, start);
            return;
        }
        for (int cell = 0; cell < 64; cell++) {
            int height = someHeight(run);
            due(run, "set(" + cell + ", " + height + ")", x.set(cell, height), m.set(cell, height));
        }
    }

    public static void main(String[] args) {
        for (int run = 0; run < RUNS; run++) {
            FloodTerrain x = new FloodTerrain();
            Model m = new Model();
            start(run, x, m);
            for (int call = 64; call < CALLS; call++) {
                if (next(4) == 0) {
                    change(run, x, m);
                } else {
                    ask(run, x, m);
                }
            }
        }
        System.out.println(wrong == 0 ? "all answers are as due" : wrong + " answers are not as due");
        if (wrong != 0) {
            System.exit(1);
        }
    }
}
