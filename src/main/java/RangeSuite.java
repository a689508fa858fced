/**
 * Finds points in rectangles, and near ones, by many ways of keeping them, which all find the same.
 *
 * <p>Every way of keeping the points is brought up to date with each change, so that a call may ask any engine at any
 * time. Sets of points are ints with bit k for point k.
 */
public final class RangeSuite {
    public static final int BAD = -1;
    public static final int FULL = -2;

    private static final int POINTS = 28;
    private static final int SIDE = 64;
    private static final int PLACES = SIDE * SIDE;
    private static final int NONE = -1;

    // The ways to find the points in a rectangle; any number above the last is no engine.
    private static final int BY_SCAN = 0;
    private static final int BY_SORTED = 1;
    private static final int BY_ROWS = 2;
    private static final int BY_GRID = 3;
    private static final int BY_QUADS = 4;
    private static final int BY_TREE = 5;
    private static final int BY_BOUNDS = 6;
    private static final int BY_SLICES = 7;

    // The ways to find the nearest point, numbered on their own.
    private static final int NEAR_BY_SCAN = 0;
    private static final int NEAR_BY_SORTED = 1;
    private static final int NEAR_BY_GRID = 2;
    private static final int NEAR_BY_TREE = 3;

    private static final int CELL_SIDE = 8;
    private static final int GRID_SIDE = SIDE / CELL_SIDE;
    private static final int CELLS = GRID_SIDE * GRID_SIDE;

    // Quads of side 64, 32, 16, 8 and 4: 1 + 4 + 16 + 64 + 256, of which those of side 4 are not split.
    private static final int QUADS = 341;
    private static final int SPLIT_QUADS = 85;
    private static final int QUAD_SPLITS = 4;

    private static final int BOUNDS = SIDE + 1;
    private static final int COORDINATE_BITS = 6;
    private static final int SLICES = 2 * COORDINATE_BITS;

    // The plain list: which points there are, how many, and where.
    private int live = 0;
    private int held = 0;
    private final int[] px = new int[POINTS];
    private final int[] py = new int[POINTS];

    // The numbers of the points in the order of their x; the first 'held' count.
    private final int[] byX = new int[POINTS];

    // A chain of points for each y.
    private final int[] rowHead = new int[SIDE];
    private final int[] rowNext = new int[POINTS];

    // The set of points in each cell of a grid.
    private final int[] cell = new int[CELLS];

    // The set of points in each quad; the quads of quad n are 4n + 1 .. 4n + 4.
    private final int[] quad = new int[QUADS];
    private final int[] quadX = new int[QUADS];
    private final int[] quadY = new int[QUADS];
    private final int[] quadSide = new int[QUADS];

    // A k-d tree whose nodes are the points: on the low side what is less than the node, on the high side the rest.
    private int treeRoot = NONE;
    private final int[] treeLow = new int[POINTS];
    private final int[] treeHigh = new int[POINTS];
    private final boolean[] splitsByY = new boolean[POINTS];

    // For each bound the set of points whose x (or y) is less than it.
    private final int[] lessX = new int[BOUNDS];
    private final int[] lessY = new int[BOUNDS];

    // For each bit of x, then of y, the set of points that have it.
    private final int[] slice = new int[SLICES];

    // Work space of the walks through trees: each node waits at most once, so it can't overflow.
    private final int[] waiting = new int[QUADS];
    private final int[] waitingGap = new int[POINTS];

    public RangeSuite() {
        for (int y = 0; y < SIDE; y++) {
            rowHead[y] = NONE;
        }
        layOutQuads();
    }

    public int add(int place) {
        if (!isPlace(place)) {
            return BAD;
        }
        for (int k = 0; k < POINTS; k++) {
            if (!has(k)) {
                enter(k, place);
                return k;
            }
        }
        return FULL;
    }

    public int remove(int k) {
        if (!has(k)) {
            return BAD;
        }
        int was = placeOf(k);
        leave(k);
        return was;
    }

    public int move(int k, int place) {
        if (!has(k) || !isPlace(place)) {
            return BAD;
        }
        int was = placeOf(k);
        leave(k);
        enter(k, place);
        return was;
    }

    public int at(int k) {
        return has(k) ? placeOf(k) : BAD;
    }

    public int points() {
        return live;
    }

    public int inside(int engine, int low, int high) {
        if (!isPlace(low) || !isPlace(high)) {
            return BAD;
        }
        switch (engine) {
            case BY_SCAN:
                return insideOf(live, low, high);
            case BY_SORTED:
                return insideSorted(low, high);
            case BY_ROWS:
                return insideRows(low, high);
            case BY_GRID:
                return insideGrid(low, high);
            case BY_QUADS:
                return insideQuads(low, high);
            case BY_TREE:
                return insideTree(low, high);
            case BY_BOUNDS:
                return insideBounds(low, high);
            case BY_SLICES:
                return insideSlices(low, high);
            default:
                return BAD;
        }
    }

    public int count(int engine, int low, int high) {
        int found = inside(engine, low, high);
        if (found == BAD) {
            return BAD;
        }
        int many = 0;
        for (int k = 0; k < POINTS; k++) {
            many += (found >> k) & 1;
        }
        return many;
    }

    public boolean agree(int engine, int other, int low, int high) {
        int found = inside(engine, low, high);
        int foundByOther = inside(other, low, high);
        return found != BAD && found == foundByOther;
    }

    public int nearest(int engine, int place) {
        if (live == 0 || !isPlace(place)) {
            return BAD;
        }
        switch (engine) {
            case NEAR_BY_SCAN:
                return nearestOf(live, place, NONE);
            case NEAR_BY_SORTED:
                return nearestSorted(place);
            case NEAR_BY_GRID:
                return nearestGrid(place);
            case NEAR_BY_TREE:
                return nearestTree(place);
            default:
                return BAD;
        }
    }

    public int ranked(int place, int j) {
        if (!isPlace(place)) {
            return BAD;
        }
        for (int k = 0; k < POINTS; k++) {
            if (has(k) && rankOf(k, place) == j) {
                return k;
            }
        }
        return BAD;
    }

    public int square(int place) {
        if (live == 0 || !isPlace(place)) {
            return BAD;
        }
        int k = nearestOf(live, place, NONE);
        return squareFrom(place, k);
    }

    public int around(int place, int r) {
        if (!isPlace(place)) {
            return BAD;
        }
        int found = 0;
        for (int k = 0; k < POINTS; k++) {
            if (has(k) && squareFrom(place, k) <= r) {
                found |= 1 << k;
            }
        }
        return found;
    }

    public int closest() {
        if (held < 2) {
            return BAD;
        }
        int least = PLACES * 2;
        for (int k = 1; k < POINTS; k++) {
            if (has(k)) {
                int square = leastSquareBefore(k);
                least = square < least ? square : least;
            }
        }
        return least;
    }

    public int staircase() {
        int found = 0;
        for (int k = 0; k < POINTS; k++) {
            if (has(k) && !isSurpassed(k)) {
                found |= 1 << k;
            }
        }
        return found;
    }

    public int below(int k) {
        if (!has(k)) {
            return BAD;
        }
        int many = 0;
        for (int other = 0; other < POINTS; other++) {
            if (other != k && has(other) && px[other] <= px[k] && py[other] <= py[k]) {
                many++;
            }
        }
        return many;
    }

    // ---- points and places

    private static boolean isPlace(int place) {
        return place >= 0 && place < PLACES;
    }

    private static int xOf(int place) {
        return place % SIDE;
    }

    private static int yOf(int place) {
        return place / SIDE;
    }

    private boolean has(int k) {
        return k >= 0 && k < POINTS && ((live >> k) & 1) == 1;
    }

    private int placeOf(int k) {
        return px[k] + SIDE * py[k];
    }

    private boolean isIn(int k, int low, int high) {
        return px[k] >= xOf(low) && px[k] <= xOf(high) && py[k] >= yOf(low) && py[k] <= yOf(high);
    }

    private int squareFrom(int place, int k) {
        // Not by xOf and yOf: the search through the grid stands as deep above this as calls may go.
        int dx = place % SIDE - px[k];
        int dy = place / SIDE - py[k];
        return dx * dx + dy * dy;
    }

    private boolean isNearer(int k, int other, int place) {
        int square = squareFrom(place, k);
        int otherSquare = squareFrom(place, other);
        return square < otherSquare || square == otherSquare && k < other;
    }

    private int rankOf(int k, int place) {
        int rank = 0;
        for (int other = 0; other < POINTS; other++) {
            if (has(other) && isNearer(other, k, place)) {
                rank++;
            }
        }
        return rank;
    }

    private int leastSquareBefore(int k) {
        int place = placeOf(k);
        int least = PLACES * 2;
        for (int other = 0; other < k; other++) {
            if (has(other)) {
                int square = squareFrom(place, other);
                least = square < least ? square : least;
            }
        }
        return least;
    }

    private boolean isSurpassed(int k) {
        for (int other = 0; other < POINTS; other++) {
            if (has(other) && px[other] >= px[k] && py[other] >= py[k] && (px[other] > px[k] || py[other] > py[k])) {
                return true;
            }
        }
        return false;
    }

    // ---- what every change does to every way of keeping the points

    private void enter(int k, int place) {
        px[k] = xOf(place);
        py[k] = yOf(place);
        live |= 1 << k;
        enterSorted(k);
        enterRow(k);
        toggleCell(k);
        toggleQuads(k);
        growTree(k);
        toggleBounds(k);
        toggleSlices(k);
    }

    private void leave(int k) {
        live &= ~(1 << k);
        leaveSorted(k);
        leaveRow(k);
        toggleCell(k);
        toggleQuads(k);
        replantTree();
        toggleBounds(k);
        toggleSlices(k);
    }

    // ---- the plain list

    private int insideOf(int set, int low, int high) {
        int found = 0;
        for (int k = 0; k < POINTS; k++) {
            if (((set >> k) & 1) == 1 && isIn(k, low, high)) {
                found |= 1 << k;
            }
        }
        return found;
    }

    private int nearestOf(int set, int place, int bestSoFar) {
        int best = bestSoFar;
        for (int k = 0; k < POINTS; k++) {
            if (((set >> k) & 1) == 1) {
                best = nearerOf(k, best, place);
            }
        }
        return best;
    }

    private int nearerOf(int k, int best, int place) {
        return best == NONE || isNearer(k, best, place) ? k : best;
    }

    // Points as far away as the best one still count, since one of them may have a lesser number.
    private boolean isInReach(int gap, int place, int best) {
        return best == NONE || gap * gap <= squareFrom(place, best);
    }

    // ---- the list in the order of x

    private void enterSorted(int k) {
        int i = held;
        for (; i > 0 && px[byX[i - 1]] > px[k]; i--) {
            byX[i] = byX[i - 1];
        }
        byX[i] = k;
        held++;
    }

    private void leaveSorted(int k) {
        int kept = 0;
        for (int i = 0; i < held; i++) {
            if (byX[i] != k) {
                byX[kept] = byX[i];
                kept++;
            }
        }
        held = kept;
    }

    private int firstFrom(int x) {
        int from = 0;
        int to = held;
        for (int step = 0; step < POINTS && from < to; step++) {
            int middle = (from + to) / 2;
            if (px[byX[middle]] < x) {
                from = middle + 1;
            } else {
                to = middle;
            }
        }
        return from;
    }

    private int insideSorted(int low, int high) {
        int lowX = xOf(low);
        int highX = xOf(high);
        int found = 0;
        for (int i = firstFrom(lowX); i < held && px[byX[i]] <= highX; i++) {
            if (isIn(byX[i], low, high)) {
                found |= 1 << byX[i];
            }
        }
        return found;
    }

    private int nearestSorted(int place) {
        int x = xOf(place);
        int start = firstFrom(x);
        int best = NONE;
        for (int i = start; i < held && isInReach(px[byX[i]] - x, place, best); i++) {
            best = nearerOf(byX[i], best, place);
        }
        for (int i = start - 1; i >= 0 && isInReach(x - px[byX[i]], place, best); i--) {
            best = nearerOf(byX[i], best, place);
        }
        return best;
    }

    // ---- the chains of rows

    private void enterRow(int k) {
        rowNext[k] = rowHead[py[k]];
        rowHead[py[k]] = k;
    }

    private void leaveRow(int k) {
        int y = py[k];
        if (rowHead[y] == k) {
            rowHead[y] = rowNext[k];
            return;
        }
        int before = rowHead[y];
        for (int step = 0; step < POINTS && before != NONE; step++) {
            if (rowNext[before] == k) {
                rowNext[before] = rowNext[k];
                return;
            }
            before = rowNext[before];
        }
    }

    private int insideRows(int low, int high) {
        int highY = yOf(high);
        int found = 0;
        for (int y = yOf(low); y <= highY; y++) {
            int k = rowHead[y];
            for (int step = 0; step < POINTS && k != NONE; step++) {
                if (isIn(k, low, high)) {
                    found |= 1 << k;
                }
                k = rowNext[k];
            }
        }
        return found;
    }

    // ---- the grid

    // Entering and leaving are the same flip of a bit, here and in the other ways that keep sets.
    private void toggleCell(int k) {
        cell[px[k] / CELL_SIDE + GRID_SIDE * (py[k] / CELL_SIDE)] ^= 1 << k;
    }

    private int insideGrid(int low, int high) {
        int lastColumn = xOf(high) / CELL_SIDE;
        int lastRow = yOf(high) / CELL_SIDE;
        int found = 0;
        for (int row = yOf(low) / CELL_SIDE; row <= lastRow; row++) {
            for (int column = xOf(low) / CELL_SIDE; column <= lastColumn; column++) {
                int set = cell[column + GRID_SIDE * row];
                boolean whole = covers(low, high, column * CELL_SIDE, row * CELL_SIDE, CELL_SIDE);
                found |= whole ? set : insideOf(set, low, high);
            }
        }
        return found;
    }

    private static boolean covers(int low, int high, int x, int y, int side) {
        return x >= xOf(low) && x + side - 1 <= xOf(high) && y >= yOf(low) && y + side - 1 <= yOf(high);
    }

    private int nearestGrid(int place) {
        int best = NONE;
        for (int ring = 0; ring < GRID_SIDE; ring++) {
            // The place may lie at the edge of its cell, so all but one cell's width is sure.
            int gap = ring == 0 ? 0 : CELL_SIDE * (ring - 1) + 1;
            if (!isInReach(gap, place, best)) {
                break;
            }
            int set = ringOf(place, ring);
            best = nearestOf(set, place, best);
        }
        return best;
    }

    private int ringOf(int place, int ring) {
        int column = xOf(place) / CELL_SIDE;
        int row = yOf(place) / CELL_SIDE;
        int set = 0;
        for (int i = 0; i < CELLS; i++) {
            int across = distance(i % GRID_SIDE, column);
            int along = distance(i / GRID_SIDE, row);
            if (across == ring && along <= ring || along == ring && across <= ring) {
                set |= cell[i];
            }
        }
        return set;
    }

    private static int distance(int a, int b) {
        return a < b ? b - a : a - b;
    }

    // ---- the quads

    private void layOutQuads() {
        quadSide[0] = SIDE;
        for (int node = 0; node < SPLIT_QUADS; node++) {
            int half = quadSide[node] / 2;
            for (int quarter = 0; quarter < 4; quarter++) {
                int part = 4 * node + 1 + quarter;
                quadX[part] = quadX[node] + half * (quarter % 2);
                quadY[part] = quadY[node] + half * (quarter / 2);
                quadSide[part] = half;
            }
        }
    }

    private void toggleQuads(int k) {
        int node = 0;
        quad[node] ^= 1 << k;
        for (int split = 0; split < QUAD_SPLITS; split++) {
            int half = quadSide[node] / 2;
            int right = px[k] >= quadX[node] + half ? 1 : 0;
            int upper = py[k] >= quadY[node] + half ? 2 : 0;
            node = 4 * node + 1 + right + upper;
            quad[node] ^= 1 << k;
        }
    }

    private int insideQuads(int low, int high) {
        int found = 0;
        int top = 1;
        waiting[0] = 0;
        for (int step = 0; step < QUADS && top > 0; step++) {
            top--;
            int node = waiting[top];
            if (quad[node] == 0 || misses(low, high, node)) {
                continue;
            }
            if (covers(low, high, quadX[node], quadY[node], quadSide[node])) {
                found |= quad[node];
            } else if (node >= SPLIT_QUADS) {
                found |= insideOf(quad[node], low, high);
            } else {
                for (int quarter = 0; quarter < 4; quarter++) {
                    waiting[top] = 4 * node + 1 + quarter;
                    top++;
                }
            }
        }
        return found;
    }

    private boolean misses(int low, int high, int node) {
        int lastX = quadX[node] + quadSide[node] - 1;
        int lastY = quadY[node] + quadSide[node] - 1;
        return quadX[node] > xOf(high) || lastX < xOf(low) || quadY[node] > yOf(high) || lastY < yOf(low);
    }

    // ---- the k-d tree

    private void growTree(int k) {
        treeLow[k] = NONE;
        treeHigh[k] = NONE;
        splitsByY[k] = false;
        if (treeRoot == NONE) {
            treeRoot = k;
            return;
        }
        int node = treeRoot;
        for (int depth = 0; depth < POINTS; depth++) {
            boolean isLow = splitsByY[node] ? py[k] < py[node] : px[k] < px[node];
            int next = isLow ? treeLow[node] : treeHigh[node];
            if (next == NONE) {
                hang(k, node, isLow);
                return;
            }
            node = next;
        }
    }

    private void hang(int k, int node, boolean isLow) {
        splitsByY[k] = !splitsByY[node];
        if (isLow) {
            treeLow[node] = k;
        } else {
            treeHigh[node] = k;
        }
    }

    // What hung below a point that left has no other place to hang, so the tree is grown anew.
    private void replantTree() {
        treeRoot = NONE;
        for (int k = 0; k < POINTS; k++) {
            if (has(k)) {
                growTree(k);
            }
        }
    }

    private int insideTree(int low, int high) {
        int found = 0;
        int top = pushTree(treeRoot, 0, 0);
        for (int step = 0; step < POINTS && top > 0; step++) {
            top--;
            int node = waiting[top];
            if (isIn(node, low, high)) {
                found |= 1 << node;
            }
            int split = splitsByY[node] ? py[node] : px[node];
            int least = splitsByY[node] ? yOf(low) : xOf(low);
            int most = splitsByY[node] ? yOf(high) : xOf(high);
            if (least < split) {
                top = pushTree(treeLow[node], 0, top);
            }
            if (most >= split) {
                top = pushTree(treeHigh[node], 0, top);
            }
        }
        return found;
    }

    private int nearestTree(int place) {
        int best = NONE;
        int top = pushTree(treeRoot, 0, 0);
        for (int step = 0; step < POINTS && top > 0; step++) {
            top--;
            int node = waiting[top];
            int gap = waitingGap[top];
            if (isInReach(gap, place, best)) {
                best = nearerOf(node, best, place);
                int offset = splitsByY[node] ? yOf(place) - py[node] : xOf(place) - px[node];
                int far = offset < 0 ? treeHigh[node] : treeLow[node];
                int near = offset < 0 ? treeLow[node] : treeHigh[node];
                // The near side goes on top: what it finds may spare the far side.
                top = pushTree(far, offset, top);
                top = pushTree(near, gap, top);
            }
        }
        return best;
    }

    private int pushTree(int node, int gap, int top) {
        if (node == NONE || top >= POINTS) {
            return top;
        }
        waiting[top] = node;
        waitingGap[top] = gap;
        return top + 1;
    }

    // ---- the sets below each bound

    private void toggleBounds(int k) {
        for (int bound = px[k] + 1; bound < BOUNDS; bound++) {
            lessX[bound] ^= 1 << k;
        }
        for (int bound = py[k] + 1; bound < BOUNDS; bound++) {
            lessY[bound] ^= 1 << k;
        }
    }

    private int insideBounds(int low, int high) {
        int byColumns = lessX[xOf(high) + 1] & ~lessX[xOf(low)];
        int byRows = lessY[yOf(high) + 1] & ~lessY[yOf(low)];
        return byColumns & byRows;
    }

    // ---- the slices

    private void toggleSlices(int k) {
        for (int bit = 0; bit < COORDINATE_BITS; bit++) {
            slice[bit] ^= ((px[k] >> bit) & 1) << k;
            slice[COORDINATE_BITS + bit] ^= ((py[k] >> bit) & 1) << k;
        }
    }

    private int insideSlices(int low, int high) {
        int lowX = xOf(low);
        int lowY = yOf(low);
        int pastX = xOf(high) + 1;
        int pastY = yOf(high) + 1;
        int byColumns = lessBySlices(0, pastX) & ~lessBySlices(0, lowX);
        int byRows = lessBySlices(COORDINATE_BITS, pastY) & ~lessBySlices(COORDINATE_BITS, lowY);
        return byColumns & byRows;
    }

    // Compares all points with the bound at once, from the highest bit down: the first bit that differs settles it.
    private int lessBySlices(int first, int bound) {
        // This bound has a bit more than there are slices.
        if (bound >= SIDE) {
            return live;
        }
        int less = 0;
        int same = live;
        for (int bit = COORDINATE_BITS - 1; bit >= 0; bit--) {
            int ones = slice[first + bit];
            if (((bound >> bit) & 1) == 1) {
                less |= same & ~ones;
                same &= ones;
            } else {
                same &= ~ones;
            }
        }
        return less;
    }
}
