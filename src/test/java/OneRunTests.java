import java.util.Map;
import java.util.TreeMap;

/**
 * One run of 512 calls on one object, in which changing and asking calls of all kinds follow each
 * other, so that what each leaves behind is seen by the later ones. Each answer is held against the
 * model, and the run is held against what it is for: see dueFollowers, dueNews and dueKept.
 */
public final class OneRunTests {
    private static final int CALLS = 512;
    private static final int ROUNDS = 12;
    // The cells that the rounds ask about.
    private static final int EARLIER = 27;
    private static final int LATER = 18;

    private static final int SET = 0;
    private static final int SHIFT = 1;
    private static final int PATTERN = 2;
    private static final int QUESTIONS = 3;
    private static final int KINDS = 12;
    private static final String[] NAMES = {"set", "shift", "pattern", "height", "level", "volume", "lakes",
        "lakeSize", "pass", "reach", "prominence", "summits"};
    private static final int[] ARGUMENTS = {2, 3, 2, 1, 1, 0, 0, 1, 2, 2, 1, 0};

    // Refused calls: kind, arguments.
    private static final int[][] REFUSED = {
        {0, 64, 50, 0}, {0, 27, 100, 0}, {1, -1, 63, 9}, {1, 0, 64, -9}, {3, -1, 0, 0}, {4, 64, 0, 0},
        {7, Integer.MIN_VALUE, 0, 0}, {8, 64, 27, 0}, {8, 27, -1, 0}, {9, -1, 99, 0},
        {10, Integer.MAX_VALUE, 0, 0}};

    private static final FloodTerrain x = new FloodTerrain();
    private static final TerrainModel m = new TerrainModel();

    private static int wrong = 0;
    private static int calls = 0;
    private static int last = -1;
    // A fixed sequence of numbers, so that every run of this test is the same; its start is one of
    // those from which the run has all that the checks at its end ask of it.
    private static long sequence = 2L;

    /** followed[a][b]: a call of kind b came straight after one of kind a. */
    private static final boolean[][] followed = new boolean[KINDS][KINDS];
    /** news[a][b]: question b was asked, changes of kind a alone came, and b then had another answer. */
    private static final boolean[][] news = new boolean[KINDS][KINDS];
    /** kept[a][b]: question b was asked twice with the heights unchanged and one of kind a from the first on. */
    private static final boolean[][] kept = new boolean[KINDS][KINDS];
    private static final Map<String, Asked> asked = new TreeMap<>();

    /** A question's last answer and the kinds of the calls from it on, one bit each. */
    private static final class Asked {
        private final int answer;
        private int changing = 0;
        private int others = 0;

        Asked(int answer) {
            this.answer = answer;
        }
    }

    private static int next(int bound) {
        sequence = sequence * 6364136223846793005L + 1442695040888963407L;
        return (int) ((sequence >>> 33) % bound);
    }

    private static void check(boolean holds, String fault) {
        if (!holds) {
            wrong++;
            System.out.println(fault);
        }
    }

    private static int answer(int kind, int a, int b, int c) {
        switch (kind) {
            case 0: return x.set(a, b);
            case 1: return x.shift(a, b, c);
            case 2: x.pattern(a, b); return 0;
            case 3: return x.height(a);
            case 4: return x.level(a);
            case 5: return x.volume();
            case 6: return x.lakes();
            case 7: return x.lakeSize(a);
            case 8: return x.pass(a, b);
            case 9: return x.reach(a, b);
            case 10: return x.prominence(a);
            default: return x.summits();
        }
    }

    private static int due(int kind, int a, int b, int c) {
        switch (kind) {
            case 0: return m.set(a, b);
            case 1: return m.shift(a, b, c);
            case 2: m.pattern(a, b); return 0;
            case 3: return m.height(a);
            case 4: return m.level(a);
            case 5: return m.volume();
            case 6: return m.lakes();
            case 7: return m.lakeSize(a);
            case 8: return m.pass(a, b);
            case 9: return m.reach(a, b);
            case 10: return m.prominence(a);
            default: return m.summits();
        }
    }

    private static String text(int kind, int a, int b, int c) {
        String[] lists = {"", "" + a, a + ", " + b, a + ", " + b + ", " + c};
        return NAMES[kind] + "(" + lists[ARGUMENTS[kind]] + ")";
    }

    private static void call(int kind, int a, int b, int c) {
        calls++;
        String text = text(kind, a, b, c);
        int due = due(kind, a, b, c);
        int got = answer(kind, a, b, c);
        check(got == due, "call " + calls + ": " + text + " answered " + got + ", due is " + due);
        if (last >= 0) {
            followed[last][kind] = true;
        }
        last = kind;
        if (kind >= QUESTIONS && due >= 0) {
            compareWithBefore(text, kind, due);
            asked.put(text, new Asked(due));
        }
        boolean changes = kind < QUESTIONS && due >= 0;
        for (Asked before : asked.values()) {
            before.changing |= changes ? 1 << kind : 0;
            before.others |= changes ? 0 : 1 << kind;
        }
    }

    private static void compareWithBefore(String text, int kind, int due) {
        Asked before = asked.get(text);
        if (before == null) {
            return;
        }
        for (int between = 0; between < KINDS; between++) {
            news[between][kind] |= before.changing == 1 << between && before.answer != due;
            kept[between][kind] |= before.changing == 0 && (before.others & 1 << between) != 0;
        }
    }

    private static void someCall(int kind) {
        int a = next(64);
        int b = kind == SHIFT || NAMES[kind].equals("pass") ? next(64) : next(100);
        call(kind, a, b, next(2) == 0 ? 1 + next(40) : -1 - next(40));
    }

    /** Each kind straight after each, itself too: the pairs a a, a b and b a for all a and b above it. */
    private static void eachKindAfterEach() {
        for (int a = 0; a < KINDS; a++) {
            someCall(a);
            for (int b = a + 1; b < KINDS; b++) {
                someCall(a);
                someCall(b);
            }
        }
        someCall(0);
    }

    private static void change(int kind, int cell) {
        if (kind == SET) {
            call(SET, cell, m.height(cell) < 50 ? 60 + next(40) : next(30), 0);
        } else if (kind == SHIFT) {
            call(SHIFT, cell, next(64), m.height(cell) < 50 ? 20 + next(40) : -20 - next(40));
        } else {
            call(PATTERN, next(64) * 2 + 1, next(64), 0);
        }
    }

    private static void ask(int question, int cell) {
        call(QUESTIONS + question, cell, NAMES[QUESTIONS + question].equals("pass") ? 63 - cell : 45, 0);
    }

    private static void refused(int number) {
        int[] call = REFUSED[number % REFUSED.length];
        call(call[0], call[1], call[2], call[3]);
    }

    private static void allRefused() {
        for (int number = 0; number < REFUSED.length; number++) {
            refused(number);
        }
    }

    /** All questions on a flat terrain; the shift at the end changes a cell only if one is not where it was. */
    private static void flat(int out) {
        for (int question = 0; question < 9; question++) {
            ask(question, EARLIER);
        }
        allRefused();
        call(SHIFT, 0, 63, out);
    }

    /** One change; all questions; a refused call amid them; all questions once more, from another one on. */
    private static void round(int number) {
        int cell = number < ROUNDS / 2 ? EARLIER : LATER;
        change((number + PATTERN) % 3, cell);
        for (int i = 0; i < 9; i++) {
            if (i == 4) {
                refused(number);
            }
            ask((number + i) % 9, cell);
        }
        for (int i = 8; i < 17; i++) {
            ask((number + i) % 9, cell);
        }
    }

    /** No pattern has come since the last rounds, so a height that they spoilt is still to be seen. */
    private static void end() {
        allRefused();
        for (int question = 0; question < 9; question++) {
            ask(question, LATER);
        }
        for (int cell = 0; cell < 64; cell++) {
            ask(0, cell);
        }
    }

    private static void dueFollowers() {
        for (int a = 0; a < KINDS; a++) {
            for (int b = 0; b < KINDS; b++) {
                check(followed[a][b], "the run has no " + NAMES[b] + " straight after " + NAMES[a]);
            }
        }
    }

    private static void dueNews() {
        for (int change = 0; change < QUESTIONS; change++) {
            for (int question = QUESTIONS; question < KINDS; question++) {
                check(news[change][question],
                    "the run has no new answer of " + NAMES[question] + " by " + NAMES[change] + " alone");
            }
        }
    }

    private static void dueKept() {
        for (int between = 0; between < KINDS; between++) {
            for (int question = QUESTIONS; question < KINDS; question++) {
                // No pattern is refused, so none is sure to leave the heights unchanged.
                check(kept[between][question] || between == PATTERN,
                    "the run has no " + NAMES[question] + " before and after " + NAMES[between]);
            }
        }
    }

    public static void main(String[] args) {
        flat(-99);
        call(SHIFT, 0, 63, 99);
        flat(1);
        eachKindAfterEach();
        for (int number = 0; number < ROUNDS; number++) {
            round(number);
        }
        end();
        check(calls == CALLS, "the run has " + calls + " calls");
        dueFollowers();
        dueNews();
        dueKept();
        System.out.println(wrong == 0 ? "all answers are as due" : wrong + " faults");
        if (wrong != 0) {
            System.exit(1);
        }
    }
}
