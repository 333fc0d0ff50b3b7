/** The terrain as the document tells it, with plain flooding at every height in turn. */
final class TerrainModel {
    private final int[] heights = new int[64];

    boolean bad(int cell) {
        return cell < 0 || cell > 63;
    }

    boolean border(int cell) {
        return cell < 8 || cell >= 56 || cell % 8 == 0 || cell % 8 == 7;
    }

    boolean beside(int a, int b) {
        return Math.abs(a / 8 - b / 8) + Math.abs(a % 8 - b % 8) == 1;
    }

    /** The allowed cells to which a way over allowed cells leads from the start. */
    boolean[] flood(int start, boolean[] allowed) {
        boolean[] seen = new boolean[64];
        if (!allowed[start]) {
            return seen;
        }
        int[] list = new int[64];
        int length = 1;
        list[0] = start;
        seen[start] = true;
        for (int i = 0; i < length; i++) {
            for (int cell = 0; cell < 64; cell++) {
                if (allowed[cell] && !seen[cell] && beside(list[i], cell)) {
                    seen[cell] = true;
                    list[length++] = cell;
                }
            }
        }
        return seen;
    }

    boolean[] within(int least, int greatest) {
        boolean[] cells = new boolean[64];
        for (int cell = 0; cell < 64; cell++) {
            cells[cell] = heights[cell] >= least && heights[cell] <= greatest;
        }
        return cells;
    }

    int count(boolean[] cells) {
        int count = 0;
        for (boolean cell : cells) {
            count += cell ? 1 : 0;
        }
        return count;
    }

    int set(int cell, int height) {
        if (bad(cell)) {
            return -1;
        }
        if (height < 0 || height > 99) {
            return -2;
        }
        int old = heights[cell];
        heights[cell] = height;
        return old;
    }

    int shift(int a, int b, int more) {
        if (bad(a) || bad(b)) {
            return -1;
        }
        int changed = 0;
        for (int cell = 0; cell < 64; cell++) {
            boolean inRows = (cell / 8 - a / 8) * (cell / 8 - b / 8) <= 0;
            boolean inColumns = (cell % 8 - a % 8) * (cell % 8 - b % 8) <= 0;
            if (inRows && inColumns) {
                int height = (int) Math.max(0L, Math.min(99L, (long) heights[cell] + more));
                changed += height == heights[cell] ? 0 : 1;
                heights[cell] = height;
            }
        }
        return changed;
    }

    void pattern(int factor, int start) {
        for (int cell = 0; cell < 64; cell++) {
            heights[cell] = Math.floorMod(cell * factor + start, 64);
        }
    }

    int height(int cell) {
        return bad(cell) ? -1 : heights[cell];
    }

    int level(int cell) {
        if (bad(cell)) {
            return -1;
        }
        for (int crest = 0; crest < 100; crest++) {
            boolean[] seen = flood(cell, within(0, crest));
            for (int other = 0; other < 64; other++) {
                if (seen[other] && border(other)) {
                    return crest;
                }
            }
        }
        throw new IllegalStateException("no way to the border");
    }

    boolean[] wet() {
        boolean[] wet = new boolean[64];
        for (int cell = 0; cell < 64; cell++) {
            wet[cell] = level(cell) > heights[cell];
        }
        return wet;
    }

    int volume() {
        int sum = 0;
        for (int cell = 0; cell < 64; cell++) {
            sum += level(cell) - heights[cell];
        }
        return sum;
    }

    int lakes() {
        boolean[] wet = wet();
        int lakes = 0;
        for (int cell = 0; cell < 64; cell++) {
            if (wet[cell]) {
                lakes++;
                boolean[] lake = flood(cell, wet);
                for (int other = 0; other < 64; other++) {
                    wet[other] &= !lake[other];
                }
            }
        }
        return lakes;
    }

    int lakeSize(int cell) {
        return bad(cell) ? -1 : count(flood(cell, wet()));
    }

    int pass(int a, int b) {
        if (bad(a) || bad(b)) {
            return -1;
        }
        int crest = 0;
        while (!flood(a, within(0, crest))[b]) {
            crest++;
        }
        return crest;
    }

    int reach(int a, int crest) {
        return bad(a) ? -1 : count(flood(a, within(0, crest)));
    }

    int prominence(int cell) {
        if (bad(cell)) {
            return -1;
        }
        for (int v = 99; v >= 0; v--) {
            boolean[] seen = flood(cell, within(v, 99));
            for (int other = 0; other < 64; other++) {
                if (seen[other] && heights[other] > heights[cell]) {
                    return heights[cell] - v;
                }
            }
        }
        int least = 99;
        for (int height : heights) {
            least = Math.min(least, height);
        }
        return heights[cell] - least;
    }

    int summits() {
        int summits = 0;
        boolean[] counted = new boolean[64];
        for (int cell = 0; cell < 64; cell++) {
            if (counted[cell]) {
                continue;
            }
            boolean[] set = flood(cell, within(heights[cell], heights[cell]));
            boolean highest = true;
            for (int a = 0; a < 64; a++) {
                counted[a] |= set[a];
                for (int b = 0; b < 64; b++) {
                    highest &= !(set[a] && beside(a, b) && heights[b] > heights[a]);
                }
            }
            summits += highest ? 1 : 0;
        }
        return summits;
    }
}
