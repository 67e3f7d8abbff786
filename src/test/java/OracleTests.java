// Compares every answer with one found straight from the document's words, over many curves.
public final class OracleTests {
    private static final int[] STEP_X = {1, 1, 0, -1, -1, -1, 0, 1};
    private static final int[] STEP_Y = {0, 1, 1, 1, 0, -1, -1, -1};
    private static final int MAX_CALLS = 512;

    private static int wrong = 0;
    private static long seed = 20261115L;

    // The model: the moves and nothing else; tables of the answers are made anew for each check.
    private static int[] moves = new int[0];
    private static boolean[][] straight;

    private static DigitalLine line;
    private static int calls;

    public static void main(String[] args) {
        everyShortCurve();
        everyTwoMoveWord();
        everyStraightWord();
        longCurves();
        runsOfCalls();
        System.out.println(wrong == 0 ? "all answers are as due" : wrong + " answers are not as due");
        if (wrong != 0) {
            System.exit(1);
        }
    }

    private static void due(String call, int got, int want) {
        if (got != want) {
            wrong++;
            if (wrong <= 50) {
                System.out.println(java.util.Arrays.toString(moves) + ": " + call
                    + " answered " + got + ", due is " + want);
            }
        }
    }

    private static int next(int bound) {
        seed = seed * 6364136223846793005L + 1442695040888963407L;
        return (int) ((seed >>> 33) % bound);
    }

    // ---- the document's words

    private static int pointOf(int k, int[] step) {
        int sum = 0;
        for (int i = 0; i < k; i++) {
            sum += step[moves[i]];
        }
        return sum;
    }

    private static boolean movesAllow(int s, int e) {
        for (int u = 0; u < 8; u++) {
            boolean all = true;
            for (int k = s; k < e; k++) {
                all &= moves[k] == u || moves[k] == (u + 1) % 8;
            }
            if (all) {
                return true;
            }
        }
        return false;
    }

    private static boolean someBandHolds(int s, int e) {
        int[] x = new int[e - s + 1];
        int[] y = new int[e - s + 1];
        for (int k = s; k <= e; k++) {
            x[k - s] = pointOf(k, STEP_X);
            y[k - s] = pointOf(k, STEP_Y);
        }
        for (int p = -24; p <= 24; p++) {
            for (int q = -24; q <= 24; q++) {
                int greater = Math.max(Math.abs(p), Math.abs(q));
                if (greater >= 1 && bandHolds(x, y, p, q, greater)) {
                    return true;
                }
            }
        }
        return false;
    }

    private static boolean bandHolds(int[] x, int[] y, int p, int q, int greater) {
        // There is an m as asked if and only if the least value will do for m.
        int least = Integer.MAX_VALUE;
        int greatest = Integer.MIN_VALUE;
        for (int k = 0; k < x.length; k++) {
            least = Math.min(least, p * x[k] - q * y[k]);
            greatest = Math.max(greatest, p * x[k] - q * y[k]);
            if (greatest > least + greater - 1) {
                return false;
            }
        }
        return true;
    }

    private static void fillTable() {
        int n = moves.length;
        straight = new boolean[n + 1][n + 1];
        for (int s = 0; s <= n; s++) {
            for (int e = s; e <= n; e++) {
                straight[s][e] = movesAllow(s, e) && someBandHolds(s, e);
            }
        }
    }

    private static int reach(int s) {
        for (int e = moves.length; e > s; e--) {
            if (straight[s][e]) {
                return e;
            }
        }
        return s;
    }

    private static int reachBack(int e) {
        for (int s = 0; s < e; s++) {
            if (straight[s][e]) {
                return s;
            }
        }
        return e;
    }

    private static int fewest(int s, int e) {
        int[] least = new int[e + 1];
        for (int t = s + 1; t <= e; t++) {
            least[t] = Integer.MAX_VALUE;
            for (int from = s; from < t; from++) {
                if (straight[from][t]) {
                    least[t] = Math.min(least[t], least[from] + 1);
                }
            }
        }
        return least[e];
    }

    private static int longest() {
        int best = 0;
        for (int s = 0; s <= moves.length; s++) {
            for (int e = s; e <= moves.length; e++) {
                best = straight[s][e] ? Math.max(best, e - s) : best;
            }
        }
        return best;
    }

    private static int maximal() {
        int count = 0;
        for (int s = 0; s <= moves.length; s++) {
            for (int e = s + 1; e <= moves.length; e++) {
                boolean longerLeft = s > 0 && straight[s - 1][e];
                boolean longerRight = e < moves.length && straight[s][e + 1];
                if (straight[s][e] && !longerLeft && !longerRight) {
                    count++;
                }
            }
        }
        return count;
    }

    // ---- the comparison

    // An object answers for at most 512 calls: a copy takes its place when it comes near.
    private static void spend(int needed) {
        calls += needed;
        if (calls > MAX_CALLS) {
            makeLine();
            calls += needed;
        }
    }

    private static void makeLine() {
        line = new DigitalLine();
        calls = moves.length;
        for (int move : moves) {
            line.push(move);
        }
    }

    private static void checkState() {
        int n = moves.length;
        spend(1 + 3 * (n + 4));
        due("moves()", line.moves(), n);
        for (int k = -1; k <= n + 1; k++) {
            boolean isPoint = k >= 0 && k <= n;
            due("moveAt(" + k + ")", line.moveAt(k), k >= 0 && k < n ? moves[k] : -1);
            due("pointX(" + k + ")", line.pointX(k), isPoint ? pointOf(k, STEP_X) : -1000);
            due("pointY(" + k + ")", line.pointY(k), isPoint ? pointOf(k, STEP_Y) : -1000);
        }
    }

    private static void checkQuestions() {
        int n = moves.length;
        fillTable();
        spend(2 * (n + 3) + 2);
        for (int k = -1; k <= n + 1; k++) {
            boolean isPoint = k >= 0 && k <= n;
            due("reach(" + k + ")", line.reach(k), isPoint ? reach(k) : -1);
            due("reachBack(" + k + ")", line.reachBack(k), isPoint ? reachBack(k) : -1);
        }
        due("longest()", line.longest(), longest());
        due("maximal()", line.maximal(), maximal());
        checkGreedyPieces();
        for (int s = -1; s <= n + 1; s++) {
            spend(2 * (n + 3));
            for (int e = -1; e <= n + 1; e++) {
                boolean isPiece = 0 <= s && s <= e && e <= n;
                String piece = "(" + s + ", " + e + ")";
                due("straight" + piece, line.straight(s, e), isPiece ? (straight[s][e] ? 1 : 0) : -1);
                due("fewest" + piece, line.fewest(s, e), isPiece ? fewest(s, e) : -1);
            }
        }
    }

    private static void checkGreedyPieces() {
        spend(moves.length + 4);
        int piece = 0;
        int end = 0;
        while (end < moves.length) {
            end = reach(end);
            due("pieceEnd(" + piece + ")", line.pieceEnd(piece), end);
            piece++;
        }
        due("pieces()", line.pieces(), piece);
        due("pieceEnd(" + piece + ")", line.pieceEnd(piece), -1);
        due("pieceEnd(-1)", line.pieceEnd(-1), -1);
    }

    private static void checkCurve(int[] curve) {
        moves = curve;
        makeLine();
        checkState();
        checkQuestions();
    }

    // ---- the curves

    private static void everyShortCurve() {
        for (int n = 0; n <= 4; n++) {
            for (int code = 0; code < 1 << (3 * n); code++) {
                int[] curve = new int[n];
                for (int k = 0; k < n; k++) {
                    curve[k] = (code >> (3 * k)) & 7;
                }
                checkCurve(curve);
            }
        }
    }

    private static void everyTwoMoveWord() {
        for (int n = 5; n <= 9; n++) {
            for (int code = 0; code < 1 << n; code++) {
                int u = (code + n) % 8;
                int[] curve = new int[n];
                for (int k = 0; k < n; k++) {
                    curve[k] = (u + ((code >> k) & 1)) % 8;
                }
                checkCurve(curve);
            }
        }
    }

    // All straight words of up to 24 moves, and all that are straight but for their last move; every
    // other word of two neighbouring moves begins with one of the latter.
    private static void everyStraightWord() {
        int[][] words = {{}};
        for (int n = 1; n <= 24; n++) {
            int[][] longer = new int[2 * words.length][];
            int count = 0;
            for (int[] word : words) {
                for (int step = 0; step <= 1; step++) {
                    int[] bits = java.util.Arrays.copyOf(word, n);
                    bits[n - 1] = step;
                    if (checkWord(bits)) {
                        longer[count] = bits;
                        count++;
                    }
                }
            }
            words = java.util.Arrays.copyOf(longer, count);
        }
    }

    private static boolean checkWord(int[] bits) {
        int n = bits.length;
        int u = next(8);
        moves = new int[n];
        for (int k = 0; k < n; k++) {
            moves[k] = (u + bits[k]) % 8;
        }
        boolean want = someBandHolds(0, n);
        // Known of such words: a band holds them if and only if they are balanced.
        due("bands and balance agree", isBalanced(bits) ? 1 : 0, want ? 1 : 0);
        makeLine();
        due("straight(0, " + n + ")", line.straight(0, n), want ? 1 : 0);
        due("reach(0)", line.reach(0), want ? n : n - 1);
        return want;
    }

    private static boolean isBalanced(int[] bits) {
        for (int size = 1; size <= bits.length; size++) {
            int least = size;
            int most = 0;
            for (int from = 0; from + size <= bits.length; from++) {
                int ones = 0;
                for (int k = from; k < from + size; k++) {
                    ones += bits[k];
                }
                least = Math.min(least, ones);
                most = Math.max(most, ones);
            }
            if (most - least > 1) {
                return false;
            }
        }
        return true;
    }

    // Lines of every slope with up to 24 across, whole and with one or two moves changed.
    private static void longCurves() {
        for (int run = 1; run <= 24; run++) {
            for (int rise = 0; rise <= run; rise++) {
                int u = next(8);
                int shift = next(run);
                int[] curve = new int[24];
                for (int k = 0; k < 24; k++) {
                    int climb = ((k + 1) * rise + shift) / run - (k * rise + shift) / run;
                    curve[k] = (u + climb) % 8;
                }
                checkCurve(curve.clone());
                int at = next(23);
                int kept = curve[at];
                curve[at] = curve[at + 1];
                curve[at + 1] = kept;
                checkCurve(curve.clone());
                curve[next(24)] = (u + next(2)) % 8;
                checkCurve(curve);
            }
        }
    }

    // ---- the changes

    private static void runsOfCalls() {
        for (int run = 0; run < 300; run++) {
            moves = new int[0];
            makeLine();
            for (int call = 0; call < 60; call++) {
                spend(1);
                change();
                if (call % 5 == 0) {
                    checkState();
                }
                if (call % 20 == 19) {
                    checkQuestions();
                }
            }
        }
    }

    private static void change() {
        int kind = next(12);
        if (kind < 4) {
            changeByPush(next(10) - 1);
        } else if (kind < 6) {
            changeByDraw(next(84) - 2, next(15) - 1, next(4) == 0 ? next(28) - 1 : next(9));
        } else if (kind < 7) {
            changeByPop(next(4) == 0 ? next(28) - 2 : next(7) - 1);
        } else if (kind < 10) {
            changeBySet(next(moves.length + 3) - 1, next(10) - 1);
        } else if (kind < 11) {
            changeByReverse();
        } else {
            changeByTurn(next(2) == 0 ? next(40) - 20 : (next(1 << 30) << 2) + next(4));
        }
    }

    private static void changeByPush(int move) {
        int want = -1;
        int[] after = moves;
        if (move >= 0 && move <= 7) {
            want = -2;
            if (moves.length < 24) {
                after = java.util.Arrays.copyOf(moves, moves.length + 1);
                after[moves.length] = move;
                want = after.length;
            }
        }
        due("push(" + move + ")", line.push(move), want);
        moves = after;
    }

    private static void changeByPop(int count) {
        int want = -1;
        int[] after = moves;
        if (count >= 0 && count <= moves.length) {
            after = java.util.Arrays.copyOf(moves, moves.length - count);
            want = after.length;
        }
        due("pop(" + count + ")", line.pop(count), want);
        moves = after;
    }

    private static void changeByDraw(int spec, int run, int count) {
        int rise = Math.floorDiv(spec, 8);
        int u = Math.floorMod(spec, 8);
        int want;
        int[] after = moves;
        if (spec < 0 || spec > 79) {
            want = -1;
        } else if (run < 1 || run > 12 || rise > run) {
            want = -2;
        } else if (count < 1 || count > 24) {
            want = -3;
        } else if (moves.length + count > 24) {
            want = -4;
        } else {
            after = java.util.Arrays.copyOf(moves, moves.length + count);
            for (int k = 0; k < count; k++) {
                boolean climbs = (k + 1) * rise / run > k * rise / run;
                after[moves.length + k] = climbs ? (u + 1) % 8 : u;
            }
            want = after.length;
        }
        due("draw(" + spec + ", " + run + ", " + count + ")", line.draw(spec, run, count), want);
        moves = after;
    }

    private static void changeBySet(int k, int move) {
        int want;
        int[] after = moves;
        if (k < 0 || k >= moves.length) {
            want = -1;
        } else if (move < 0 || move > 7) {
            want = -2;
        } else {
            want = moves[k];
            after = moves.clone();
            after[k] = move;
        }
        due("set(" + k + ", " + move + ")", line.set(k, move), want);
        moves = after;
    }

    private static void changeByReverse() {
        int[] after = new int[moves.length];
        for (int k = 0; k < after.length; k++) {
            after[k] = (moves[moves.length - 1 - k] + 4) % 8;
        }
        due("reverse()", line.reverse(), after.length);
        moves = after;
    }

    private static void changeByTurn(int turns) {
        int[] after = new int[moves.length];
        for (int k = 0; k < after.length; k++) {
            after[k] = (int) Math.floorMod((long) moves[k] + turns, 8L);
        }
        due("turn(" + turns + ")", line.turn(turns), after.length);
        moves = after;
    }
}
