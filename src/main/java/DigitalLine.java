/** Digital straightness of a grid curve; the document's promises are named by number. */
public final class DigitalLine {
    private static final int MAX_MOVES = 24;
    private static final int MAX_POINTS = MAX_MOVES + 1;
    private static final int MAX_STEEPNESS = 24;

    private static final int DIRECTIONS = 8;
    private static final int DIRECTION_MASK = DIRECTIONS - 1;
    private static final int HALF_TURN = 4;

    private static final int MAX_SPEC = 79;
    private static final int MAX_RUN = 12;

    private static final int NO_POINT = -1000;

    private final int[] curve = new int[MAX_MOVES];
    private final int[] x = new int[MAX_POINTS];
    private final int[] y = new int[MAX_POINTS];
    private int length;

    /** Promise 1. */
    public DigitalLine() {
        length = 0;
    }

    /** Promise 2. */
    public int push(int move) {
        if (!isDirection(move)) {
            return -1;
        }
        if (length >= MAX_MOVES) {
            return -2;
        }
        append(move);
        return length;
    }

    /** Promise 3. */
    public int pop(int count) {
        if (count < 0 || count > length) {
            return -1;
        }
        length -= count;
        return length;
    }

    /** Promise 4. */
    public int draw(int spec, int run, int count) {
        if (spec < 0 || spec > MAX_SPEC) {
            return -1;
        }
        int rise = spec / DIRECTIONS;
        int flat = spec % DIRECTIONS;
        if (run < 1 || run > MAX_RUN || rise > run) {
            return -2;
        }
        if (count < 1 || count > MAX_MOVES) {
            return -3;
        }
        if (length + count > MAX_MOVES) {
            return -4;
        }
        int steep = (flat + 1) & DIRECTION_MASK;
        for (int k = 0; k < count; k++) {
            boolean climbs = ((k + 1) * rise) / run > (k * rise) / run;
            append(climbs ? steep : flat);
        }
        return length;
    }

    /** Promise 5. */
    public int set(int k, int move) {
        if (!isMoveNumber(k)) {
            return -1;
        }
        if (!isDirection(move)) {
            return -2;
        }
        int before = curve[k];
        curve[k] = move;
        placePoints();
        return before;
    }

    /** Promise 6. */
    public int reverse() {
        for (int low = 0, high = length - 1; low <= high; low++, high--) {
            int first = curve[low];
            int last = curve[high];
            curve[low] = (last + HALF_TURN) & DIRECTION_MASK;
            curve[high] = (first + HALF_TURN) & DIRECTION_MASK;
        }
        placePoints();
        return length;
    }

    /** Promise 7. */
    public int turn(int turns) {
        // The mask is right for every int, because a sum that wraps around is off by a multiple of 8.
        for (int k = 0; k < length; k++) {
            curve[k] = (curve[k] + turns) & DIRECTION_MASK;
        }
        placePoints();
        return length;
    }

    /** Promise 8. */
    public int moves() {
        return length;
    }

    /** Promise 9. */
    public int moveAt(int k) {
        return isMoveNumber(k) ? curve[k] : -1;
    }

    /** Promise 10. */
    public int pointX(int k) {
        return isPointNumber(k) ? x[k] : NO_POINT;
    }

    /** Promise 11. */
    public int pointY(int k) {
        return isPointNumber(k) ? y[k] : NO_POINT;
    }

    /** Promise 12. */
    public int straight(int s, int e) {
        if (!isPiece(s, e)) {
            return -1;
        }
        return isStraight(s, e) ? 1 : 0;
    }

    /** Promise 13. */
    public int reach(int s) {
        return isPointNumber(s) ? farthestEnd(s) : -1;
    }

    /** Promise 14. */
    public int reachBack(int e) {
        return isPointNumber(e) ? farthestStart(e) : -1;
    }

    /** Promise 15. */
    public int pieces() {
        return greedyCount(0, length);
    }

    /** Promise 16. */
    public int pieceEnd(int piece) {
        // Each piece has a move of its own, so there are never more pieces than moves.
        if (piece < 0 || piece >= length) {
            return -1;
        }
        int end = 0;
        for (int k = 0; k <= piece; k++) {
            if (end >= length) {
                return -1;
            }
            end = farthestEnd(end);
        }
        return end;
    }

    /** Promise 17. */
    public int fewest(int s, int e) {
        return isPiece(s, e) ? greedyCount(s, e) : -1;
    }

    /** Promise 18. */
    public int longest() {
        int best = 0;
        for (int s = 0; s < length; s++) {
            int size = farthestEnd(s) - s;
            if (size > best) {
                best = size;
            }
        }
        return best;
    }

    /** Promise 19. */
    public int maximal() {
        // The longest piece from s can be made longer only by point s - 1, and only if the longest
        // piece from s - 1 ends where it does; it never ends later.
        int count = 0;
        int endBefore = 0;
        for (int s = 0; s < length; s++) {
            int end = farthestEnd(s);
            if (end > endBefore) {
                count++;
            }
            endBefore = end;
        }
        return count;
    }

    private static boolean isDirection(int move) {
        return move >= 0 && move < DIRECTIONS;
    }

    private boolean isMoveNumber(int k) {
        return k >= 0 && k < length;
    }

    private boolean isPointNumber(int k) {
        return k >= 0 && k <= length;
    }

    private boolean isPiece(int s, int e) {
        return 0 <= s && s <= e && e <= length;
    }

    private void append(int direction) {
        curve[length] = direction;
        length++;
        placePoint(length);
    }

    private void placePoints() {
        for (int k = 1; k <= length; k++) {
            placePoint(k);
        }
    }

    private void placePoint(int k) {
        int last = curve[k - 1];
        x[k] = x[k - 1] + stepX(last);
        y[k] = y[k - 1] + stepY(last);
    }

    private static int stepX(int direction) {
        switch (direction) {
            case 7: case 0: case 1:
                return 1;
            case 3: case 4: case 5:
                return -1;
            default:
                return 0;
        }
    }

    private static int stepY(int direction) {
        switch (direction) {
            case 1: case 2: case 3:
                return 1;
            case 5: case 6: case 7:
                return -1;
            default:
                return 0;
        }
    }

    private int farthestEnd(int s) {
        // A part of a straight piece is straight: behind the first end that fails, no end succeeds.
        for (int e = s + 1; e <= length; e++) {
            if (!isStraight(s, e)) {
                return e - 1;
            }
        }
        return length;
    }

    private int farthestStart(int e) {
        for (int s = e - 1; s >= 0; s--) {
            if (!isStraight(s, e)) {
                return s + 1;
            }
        }
        return 0;
    }

    private int greedyCount(int s, int e) {
        // No choice of pieces gets ahead of the greedy one, because a part of a straight piece is
        // straight; for the same reason a last piece that goes beyond e may be cut off there.
        int count = 0;
        int at = s;
        for (int k = s; k < e && at < e; k++) {
            at = farthestEnd(at);
            count++;
        }
        return count;
    }

    private boolean isStraight(int s, int e) {
        return hasNeighbouringMoves(s, e) && fitsSomeBand(s, e);
    }

    private boolean hasNeighbouringMoves(int s, int e) {
        boolean left = false;
        boolean right = false;
        for (int k = s; k < e; k++) {
            int turned = (curve[k] - curve[s]) & DIRECTION_MASK;
            if (turned == 1) {
                left = true;
            } else if (turned == DIRECTION_MASK) {
                right = true;
            } else if (turned != 0) {
                return false;
            }
        }
        return !(left && right);
    }

    private boolean fitsSomeBand(int s, int e) {
        // p below 0 is left out: -p, -q holds the same points as p, q.
        for (int p = 0; p <= MAX_STEEPNESS; p++) {
            for (int q = -MAX_STEEPNESS; q <= MAX_STEEPNESS; q++) {
                if (fitsBand(s, e, p, q)) {
                    return true;
                }
            }
        }
        return false;
    }

    private boolean fitsBand(int s, int e, int p, int q) {
        int sizeP = p < 0 ? -p : p;
        int sizeQ = q < 0 ? -q : q;
        int width = sizeP > sizeQ ? sizeP : sizeQ;
        int lowest = p * x[s] - q * y[s];
        int highest = lowest;
        for (int k = s; k <= e; k++) {
            int value = p * x[k] - q * y[k];
            lowest = value < lowest ? value : lowest;
            highest = value > highest ? value : highest;
            // Width 0 (p and q both 0) fails here at the first point, as the document asks.
            if (highest - lowest >= width) {
                return false;
            }
        }
        return true;
    }
}
