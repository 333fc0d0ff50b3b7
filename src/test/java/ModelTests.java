/** Long runs of calls, each answer held against a model that follows the document's words one by one. */
public final class ModelTests {
    private static final int RUNS = 30;
    private static final int CALLS = 512;

    private static int wrong = 0;
    // A fixed sequence of numbers, so that every run of this test is the same.
    private static long sequence = 20261115L;

    private static int next(int bound) {
        sequence = sequence * 6364136223846793005L + 1442695040888963407L;
        return (int) ((sequence >>> 33) % bound);
    }

    private static void due(int run, String call, int got, int want) {
        if (got != want) {
            wrong++;
            System.out.println("run " + run + ": " + call + " answered " + got + ", due is " + want);
        }
    }

    /** Mostly a cell, at times one just outside or far off. */
    private static int someCell() {
        switch (next(80)) {
            case 0: return -1 - next(3);
            case 1: return 64 + next(3);
            case 2: return Integer.MIN_VALUE;
            case 3: return Integer.MAX_VALUE;
            default: return next(64);
        }
    }

    /** A few heights in some runs, so that equal ones meet; all of them in others. */
    private static int someHeight(int run) {
        int kind = next(40);
        if (kind == 0) {
            return next(2) == 0 ? -1 - next(3) : 100 + next(3);
        }
        return run % 3 == 0 ? next(4) : run % 3 == 1 ? next(12) * 9 : next(100);
    }

    private static int someMore(int run) {
        int kind = next(20);
        if (kind == 0) {
            return next(2) == 0 ? Integer.MAX_VALUE : Integer.MIN_VALUE;
        }
        return run % 3 == 0 ? next(5) - 2 : next(61) - 30;
    }

    private static void pattern(FloodTerrain x, TerrainModel m) {
        int factor = next(1 << 30) * (next(2) * 2 - 1);
        int start = next(1 << 30) * (next(2) * 2 - 1);
        x.pattern(factor, start);
        m.pattern(factor, start);
    }

    private static void change(int run, FloodTerrain x, TerrainModel m) {
        int a = someCell();
        int b = someCell();
        if (run % 3 == 2 && next(10) == 0) {
            pattern(x, m);
        } else if (next(8) == 0) {
            int more = someMore(run);
            due(run, "shift(" + a + ", " + b + ", " + more + ")", x.shift(a, b, more), m.shift(a, b, more));
        } else {
            int height = someHeight(run);
            due(run, "set(" + a + ", " + height + ")", x.set(a, height), m.set(a, height));
        }
    }

    private static void ask(int run, FloodTerrain x, TerrainModel m) {
        int a = someCell();
        int b = someCell();
        int crest = someHeight(run);
        switch (next(9)) {
            case 0: due(run, "height(" + a + ")", x.height(a), m.height(a)); break;
            case 1: due(run, "level(" + a + ")", x.level(a), m.level(a)); break;
            case 2: due(run, "volume()", x.volume(), m.volume()); break;
            case 3: due(run, "lakes()", x.lakes(), m.lakes()); break;
            case 4: due(run, "lakeSize(" + a + ")", x.lakeSize(a), m.lakeSize(a)); break;
            case 5: due(run, "pass(" + a + ", " + b + ")", x.pass(a, b), m.pass(a, b)); break;
            case 6: due(run, "reach(" + a + ", " + crest + ")", x.reach(a, crest), m.reach(a, crest)); break;
            case 7: due(run, "prominence(" + a + ")", x.prominence(a), m.prominence(a)); break;
            default: due(run, "summits()", x.summits(), m.summits()); break;
        }
    }

    private static void start(int run, FloodTerrain x, TerrainModel m) {
        if (run % 3 == 2) {
            pattern(x, m);
            return;
        }
        for (int cell = 0; cell < 64; cell++) {
            int height = someHeight(run);
            due(run, "set(" + cell + ", " + height + ")", x.set(cell, height), m.set(cell, height));
        }
    }

    public static void main(String[] args) {
        for (int run = 0; run < RUNS; run++) {
            FloodTerrain x = new FloodTerrain();
            TerrainModel m = new TerrainModel();
            start(run, x, m);
            for (int call = 64; call < CALLS; call++) {
                if (next(4) == 0) {
                    change(run, x, m);
                } else {
                    ask(run, x, m);
                }
            }
        }
        System.out.println(wrong == 0 ? "all answers are as due" : wrong + " answers are not as due");
        if (wrong != 0) {
            System.exit(1);
        }
    }
}
