import java.util.function.ToIntFunction;

// A test for each sentence of the document that names a boundary case; the sentence is its name.
public final class BoundaryTests {
    private static final int[] STEP_X = {1, 1, 0, -1, -1, -1, 0, 1};
    private static final int[] STEP_Y = {0, 1, 1, 1, 0, -1, -1, -1};
    private static final int MIN = Integer.MIN_VALUE;
    private static final int MAX = Integer.MAX_VALUE;

    private static final String EMPTY = "";
    private static final String ONE = "5";
    private static final String SOME = "0011223070";
    private static final String ALMOST = "01234567012345670123456";
    private static final String FULL = "012345670123456701234567";
    private static final String FULL_LINE = "000000000000000000000000";
    private static final String FULL_ZIGZAG = "040404040404040404040404";
    private static final String[] CURVES = {EMPTY, ONE, SOME, ALMOST, FULL, FULL_LINE, FULL_ZIGZAG};

    private static int wrong = 0;
    private static int sentences = 0;
    private static String sentence = "";

    public static void main(String[] args) {
        terms();
        changes();
        questions();
        System.out.println(wrong == 0
            ? "all answers are as due, for " + sentences + " sentences"
            : wrong + " answers are not as due");
        if (wrong != 0) {
            System.exit(1);
        }
    }

    private static void terms() {
        test("An object is used for at most 512 calls after it has been made", BoundaryTests::call512);
        test("A CURVE starts at the point (0, 0)", BoundaryTests::curveStarts);
        test("has at most 24 MOVES, each 0 .. 7", BoundaryTests::curveIsFull);
        test("each 0 .. 7: 0 (1, 0), 1 (1, 1), 2 (0, 1), 3 (-1, 1), 4 (-1, 0), 5 (-1, -1), 6 (0, -1), 7 (1, -1).",
            BoundaryTests::movesOfEachKind);
        test("Its POINTS are numbered 0 .. moves(): point 0 is (0, 0), point k + 1 is point k plus move k.",
            BoundaryTests::pointNumbers);
        test("A PIECE (s, e), 0 <= s <= e <= moves(), is the points s .. e.", BoundaryTests::pieceEnds);
        test("with the greater of |p| and |q| in 1 .. 24", BoundaryTests::bandOfSteepness24);
        test("m <= p * x - q * y <= m + (the greater of |p| and |q|) - 1", BoundaryTests::bandWidth);
        test("the moves of the piece (move s .. e - 1) are all the same", BoundaryTests::movesAllTheSame);
        test("u and u + 1 modulo 8", BoundaryTests::neighbouringMoves);
        test("and no others.", BoundaryTests::noOtherMoves);
        test("Every piece with s = e or s + 1 = e is straight", BoundaryTests::shortPieces);
        test("a part of a straight piece is straight", BoundaryTests::partsOfAStraightPiece);
        test("the first one begins at point 0", BoundaryTests::firstGreedyPiece);
        test("the next one begins at e; the last one ends at moves()", BoundaryTests::lastGreedyPiece);
        test("With no moves there is none.", BoundaryTests::noGreedyPiece);
        test("No question changes anything.", BoundaryTests::questionsChangeNothing);
        test("A refused call changes nothing.", BoundaryTests::refusedCallsChangeNothing);
        test("In every method the tests are made in the order named.", BoundaryTests::orderOfTests);
    }

    private static void changes() {
        test("No moves at first.", BoundaryTests::newObject);
        test("Puts a move at the end. -1 if move is not in 0 .. 7", BoundaryTests::pushOutside);
        test("-2 if there are 24 moves", BoundaryTests::pushFull);
        test("otherwise answers how many there are now.", BoundaryTests::pushUpToFull);
        test("Takes the last count moves away. -1 if count is not in 0 .. moves()", BoundaryTests::popOutside);
        test("otherwise answers how many are left.", BoundaryTests::popNoneToAll);
        test("the move u + 1 modulo 8 if ((k + 1) * rise) / run > (k * rise) / run (whole quotients), else u.",
            BoundaryTests::drawEveryLine);
        test("-1 if spec is not in 0 .. 79 (rise 0 .. 9, u 0 .. 7)", BoundaryTests::drawSpecOutside);
        test("-2 if run is not in 1 .. 12 or rise > run", BoundaryTests::drawRunOutside);
        test("-3 if count is not in 1 .. 24", BoundaryTests::drawCountOutside);
        test("-4 if there would be more than 24 moves; otherwise answers how many there are now.",
            BoundaryTests::drawBeyondFull);
        test("Changes move k. -1 if there is no such move", BoundaryTests::setNoSuchMove);
        test("-2 if move is not in 0 .. 7", BoundaryTests::setOutside);
        test("otherwise answers the move before.", BoundaryTests::setFirstAndLast);
        test("the moves come in reverse order, each turned by half a turn (plus 4 modulo 8).",
            BoundaryTests::reverseWrapsAround);
        test("Answers how many there are.", BoundaryTests::reverseAndTurnAnswer);
        test("move + turns modulo 8, the remainder in 0 .. 7; turns may be any int", BoundaryTests::turnByAnyInt);
    }

    private static void questions() {
        test("How many moves there are.", BoundaryTests::movesNoneToFull);
        test("Move k; -1 if there is no such move.", BoundaryTests::moveAtOutside);
        test("x of point k; -1000 if there is no such point.", BoundaryTests::pointXOutside);
        test("y of point k; -1000 if there is no such point.", BoundaryTests::pointYOutside);
        test("1 if the piece (s, e) is straight, otherwise 0; -1 unless 0 <= s <= e <= moves().",
            BoundaryTests::straightOutside);
        test("The greatest e such that the piece (s, e) is straight; -1 if s is not in 0 .. moves().",
            BoundaryTests::reachOutside);
        test("The least s such that the piece (s, e) is straight; -1 if e is not in 0 .. moves().",
            BoundaryTests::reachBackOutside);
        test("How many greedy pieces there are.", BoundaryTests::piecesNoneToFull);
        test("The last point of a greedy piece; -1 if there is no such piece.", BoundaryTests::pieceEndOutside);
        test("the least k such that there are s = t0 < t1 < .. < tk = e with every piece (t(i), t(i+1)) straight"
            + " (0 if s = e).", BoundaryTests::fewestNoneToFull);
        test("(0 if s = e). -1 unless 0 <= s <= e <= moves().", BoundaryTests::fewestOutside);
        test("The greatest length e - s of a straight piece (s, e).", BoundaryTests::longestNoneToFull);
        test("straight pieces (s, e) with s < e there are that can't be made longer: neither (s - 1, e) nor"
            + " (s, e + 1) is a straight piece of the curve.", BoundaryTests::maximalNoneToFull);
    }

    // ---- what the tests are made of

    private static void test(String words, Runnable body) {
        sentence = words;
        sentences++;
        body.run();
    }

    private static void due(String call, Object got, Object want) {
        if (!got.equals(want)) {
            wrong++;
            System.out.println("'" + sentence + "': " + call + " answered " + got + ", due is " + want);
        }
    }

    private static DigitalLine curve(String moves) {
        DigitalLine line = new DigitalLine();
        for (int k = 0; k < moves.length(); k++) {
            line.push(moves.charAt(k) - '0');
        }
        return line;
    }

    // On a new object with the moves 'before': the call's answer, and all that can be seen behind it.
    private static void check(String before, String call, ToIntFunction<DigitalLine> run, int want, String after) {
        DigitalLine line = curve(before);
        String name = "'" + before + "' " + call;
        due(name, run.applyAsInt(line), want);
        dueCurve(name, line, after);
        due("all questions after " + name, answersOf(line), answersOf(curve(after)));
    }

    private static void dueCurve(String name, DigitalLine line, String moves) {
        int x = 0;
        int y = 0;
        due(name + " moves()", line.moves(), moves.length());
        due(name + " pointX(0)", line.pointX(0), 0);
        due(name + " pointY(0)", line.pointY(0), 0);
        for (int k = 0; k < moves.length(); k++) {
            int move = moves.charAt(k) - '0';
            x += STEP_X[move];
            y += STEP_Y[move];
            due(name + " moveAt(" + k + ")", line.moveAt(k), move);
            due(name + " pointX(" + (k + 1) + ")", line.pointX(k + 1), x);
            due(name + " pointY(" + (k + 1) + ")", line.pointY(k + 1), y);
        }
    }

    private static String answersOf(DigitalLine line) {
        StringBuilder text = new StringBuilder();
        for (int k = -1; k <= 25; k++) {
            text.append(line.moveAt(k)).append(' ');
            text.append(line.pointX(k)).append(' ').append(line.pointY(k)).append(' ');
            text.append(line.reach(k)).append(' ').append(line.reachBack(k)).append(' ');
            text.append(line.pieceEnd(k)).append(' ').append(line.fewest(0, k)).append(", ");
        }
        text.append(line.moves()).append(' ').append(line.pieces()).append(' ');
        return text.append(line.longest()).append(' ').append(line.maximal()).toString();
    }

    private static void push(String before, int move, int want, String after) {
        check(before, "push(" + move + ")", line -> line.push(move), want, after);
    }

    private static void pop(String before, int count, int want, String after) {
        check(before, "pop(" + count + ")", line -> line.pop(count), want, after);
    }

    private static void draw(String before, int spec, int run, int count, int want, String after) {
        String call = "draw(" + spec + ", " + run + ", " + count + ")";
        check(before, call, line -> line.draw(spec, run, count), want, after);
    }

    private static void set(String before, int k, int move, int want, String after) {
        check(before, "set(" + k + ", " + move + ")", line -> line.set(k, move), want, after);
    }

    private static void reverse(String before, String after) {
        check(before, "reverse()", DigitalLine::reverse, before.length(), after);
    }

    private static void turn(String before, int turns, String after) {
        check(before, "turn(" + turns + ")", line -> line.turn(turns), before.length(), after);
    }

    private static void ask(String curve, String call, ToIntFunction<DigitalLine> run, int want) {
        check(curve, call, run, want, curve);
    }

    private static void straight(String curve, int s, int e, int want) {
        ask(curve, "straight(" + s + ", " + e + ")", line -> line.straight(s, e), want);
    }

    private static void fewest(String curve, int s, int e, int want) {
        ask(curve, "fewest(" + s + ", " + e + ")", line -> line.fewest(s, e), want);
    }

    private static void pieceEnd(String curve, int piece, int want) {
        ask(curve, "pieceEnd(" + piece + ")", line -> line.pieceEnd(piece), want);
    }

    // The whole curve, in all eight directions and walked from either end.
    private static void wholeIsStraight(String moves, int want) {
        int n = moves.length();
        for (int turns = 0; turns < 8; turns++) {
            String turned = turned(moves, turns);
            due("'" + turned + "' straight(0, " + n + ")", curve(turned).straight(0, n), want);
            String backward = new StringBuilder(turned(turned, 4)).reverse().toString();
            due("'" + backward + "' straight(0, " + n + ")", curve(backward).straight(0, n), want);
        }
    }

    private static String turned(String moves, int turns) {
        StringBuilder text = new StringBuilder();
        for (int k = 0; k < moves.length(); k++) {
            text.append((moves.charAt(k) - '0' + turns) % 8);
        }
        return text.toString();
    }

    // Just outside, far outside, and outside by what a mask or a cast to a lesser type would hide.
    private static int[] outside(int low, int high) {
        return new int[] {
            low - 1, low - 2, low - 8, low - 256, low - 65536, MIN, MIN + 1, MIN + 8,
            high + 1, high + 2, high + 8, high + 256, high + 65536, MAX, MAX - 1, MAX - 7};
    }

    // ---- the terms

    private static void call512() {
        DigitalLine line = new DigitalLine();
        for (int call = 1; call <= 24; call++) {
            due("call " + call + ", push(1)", line.push(1), call);
        }
        for (int call = 25; call <= 504; call += 4) {
            due("call " + call + ", push(1)", line.push(1), -2);
            due("call " + (call + 1) + ", reverse()", line.reverse(), 24);
            due("call " + (call + 2) + ", turn(-4)", line.turn(-4), 24);
            due("call " + (call + 3) + ", pieces()", line.pieces(), 1);
        }
        due("call 505, pop(24)", line.pop(24), 0);
        due("call 506, draw(8, 2, 23)", line.draw(8, 2, 23), 23);
        due("call 507, push(7)", line.push(7), 24);
        due("call 508, pieces()", line.pieces(), 2);
        due("call 509, pointX(24)", line.pointX(24), 24);
        due("call 510, pointY(24)", line.pointY(24), 10);
        due("call 511, set(23, 1)", line.set(23, 1), 7);
        due("call 512, longest()", line.longest(), 24);
    }

    private static void curveStarts() {
        for (String moves : CURVES) {
            ask(moves, "pointX(0)", line -> line.pointX(0), 0);
            ask(moves, "pointY(0)", line -> line.pointY(0), 0);
        }
        for (int move = 0; move < 8; move++) {
            set(SOME, 0, move, 0, move + SOME.substring(1));
        }
    }

    private static void curveIsFull() {
        DigitalLine line = new DigitalLine();
        for (int k = 0; k < 60; k++) {
            line.push(k % 8);
            line.draw(k % 80, 12, 7);
            due("try " + k + ": at most 24 moves", line.moves() <= 24, true);
        }
        due("moves()", line.moves(), 24);
        line.set(0, 8);
        line.turn(MIN + 5);
        line.reverse();
        line.turn(MAX);
        line.set(23, -1);
        for (int k = 0; k < 24; k++) {
            int move = line.moveAt(k);
            due("moveAt(" + k + ") = " + move + " is in 0 .. 7", move >= 0 && move <= 7, true);
        }
    }

    private static void movesOfEachKind() {
        for (int move = 0; move < 8; move++) {
            String full = turned(FULL_LINE, move);
            int x = 24 * STEP_X[move];
            int y = 24 * STEP_Y[move];
            ask(full, "pointX(24)", line -> line.pointX(24), x);
            ask(full, "pointY(24)", line -> line.pointY(24), y);
        }
    }

    private static void pointNumbers() {
        ask(EMPTY, "pointX(0)", line -> line.pointX(0), 0);
        ask(EMPTY, "pointX(1)", line -> line.pointX(1), -1000);
        ask(ONE, "pointY(1)", line -> line.pointY(1), -1);
        ask(ONE, "pointY(2)", line -> line.pointY(2), -1000);
        ask(FULL, "pointX(24)", line -> line.pointX(24), 0);
        ask(FULL, "pointX(25)", line -> line.pointX(25), -1000);
        DigitalLine popped = curve(FULL_LINE);
        popped.pop(1);
        due("full, pop(1): pointX(23)", popped.pointX(23), 23);
        due("full, pop(1): pointX(24)", popped.pointX(24), -1000);
    }

    private static void pieceEnds() {
        // Both the first and the last point count, and none before or behind them.
        straight("0011", 0, 4, 0);
        straight("0011", 0, 3, 1);
        straight("0011", 1, 4, 1);
        straight("4000", 1, 4, 1);
        straight("4000", 0, 4, 0);
        straight("0004", 0, 3, 1);
        straight("0004", 0, 4, 0);
        straight(FULL_LINE, 0, 24, 1);
        straight(FULL_LINE, 24, 24, 1);
    }

    private static void bandOfSteepness24() {
        // All the words of 24 moves that a band of 24 holds and no lesser one, and one that 1 holds.
        String[] words = {
            "000000000000000000000001", "000010000100001000010001", "000100100010010001001001",
            "001010101010010101010101", "010101010101101010101011", "011011011101101110110111",
            "011101111011110111101111", "011111111111111111111111", "100000000000000000000000",
            "100010000100001000010000", "100100100010010001001000", "101010101010010101010100",
            "110101010101101010101010", "111011011101101110110110", "111101111011110111101110",
            "111111111111111111111110"};
        for (String word : words) {
            wholeIsStraight(word, 1);
        }
        wholeIsStraight(FULL_LINE, 1);
    }

    private static void bandWidth() {
        // Words that some band just holds, each with longer or changed ones that none holds.
        wholeIsStraight("001", 1);
        wholeIsStraight("0011", 0);
        wholeIsStraight("10001", 1);
        wholeIsStraight("1000110", 0);
        wholeIsStraight("100010000", 1);
        wholeIsStraight("1000100000", 0);
        wholeIsStraight("00000000000100000000000", 1);
        wholeIsStraight("000000000001000000000001", 1);
        wholeIsStraight("000000000001000000000011", 0);
        wholeIsStraight("100000000000000000000001", 1);
        wholeIsStraight("110000000000000000000000", 0);
        // A band whose m is below 0, and one far from point 0.
        straight("777070", 2, 6, 1);
        straight("666666666666666666670000", 19, 24, 1);
        straight("444444444444444444443233", 20, 24, 1);
    }

    private static void movesAllTheSame() {
        // A band holds these, because they go back on themselves; the moves alone refuse them.
        wholeIsStraight("04", 0);
        wholeIsStraight("15", 0);
        wholeIsStraight("0040", 0);
        wholeIsStraight("00000000000400000000000", 0);
        wholeIsStraight("000000000000000000000004", 0);
        wholeIsStraight(FULL_ZIGZAG, 0);
        // Move e is not of the piece, nor is move s - 1.
        straight("00004", 0, 4, 1);
        straight("40000", 1, 5, 1);
        straight("40004", 1, 4, 1);
    }

    private static void neighbouringMoves() {
        for (int first = 0; first < 8; first++) {
            for (int second = 0; second < 8; second++) {
                int apart = (second - first + 8) % 8;
                int want = apart == 0 || apart == 1 || apart == 7 ? 1 : 0;
                straight("" + first + second, 0, 2, want);
            }
        }
        straight("707", 0, 3, 1);
        straight("070", 0, 3, 1);
        straight("7000000", 0, 7, 1);
        straight("0000007", 0, 7, 1);
        straight("0770", 0, 4, 1);
        straight("7700", 0, 4, 0);
    }

    private static void noOtherMoves() {
        wholeIsStraight("012", 0);
        wholeIsStraight("701", 0);
        wholeIsStraight("107", 0);
        wholeIsStraight("0107", 0);
        wholeIsStraight("1000000000000000000007", 0);
        wholeIsStraight("700000000000000000000001", 0);
        wholeIsStraight("0002", 0);
        wholeIsStraight("0103", 0);
        // A band holds these too.
        wholeIsStraight("0104", 0);
        wholeIsStraight("0154", 0);
        wholeIsStraight("045", 0);
        wholeIsStraight("0451", 0);
    }

    private static void shortPieces() {
        for (String moves : CURVES) {
            DigitalLine line = curve(moves);
            for (int s = 0; s <= moves.length(); s++) {
                due("'" + moves + "' straight(" + s + ", " + s + ")", line.straight(s, s), 1);
            }
            for (int s = 0; s < moves.length(); s++) {
                due("'" + moves + "' straight(" + s + ", " + (s + 1) + ")", line.straight(s, s + 1), 1);
            }
        }
    }

    private static void partsOfAStraightPiece() {
        String[] lines = {FULL_LINE, "001010101010010101010101", "777777777777777777777770", "232232223223222322322232"};
        for (String moves : lines) {
            DigitalLine line = curve(moves);
            for (int s = 0; s <= 24; s++) {
                for (int e = s; e <= 24; e++) {
                    due("'" + moves + "' straight(" + s + ", " + e + ")", line.straight(s, e), 1);
                }
            }
        }
    }

    private static void firstGreedyPiece() {
        pieceEnd(ONE, 0, 1);
        pieceEnd("04", 0, 1);
        pieceEnd(FULL_LINE, 0, 24);
        // Begun at point 1, it would end at 4.
        pieceEnd("001122", 0, 3);
    }

    private static void lastGreedyPiece() {
        pieceEnd(ONE, 0, 1);
        pieceEnd("001122", 1, 6);
        // (0, 3), (3, 7), (7, 8).
        ask("00112211", "pieces()", DigitalLine::pieces, 3);
        pieceEnd("00112211", 0, 3);
        pieceEnd("00112211", 1, 7);
        pieceEnd("00112211", 2, 8);
        pieceEnd("000000000000000000000004", 1, 24);
        pieceEnd(FULL_ZIGZAG, 23, 24);
    }

    private static void noGreedyPiece() {
        ask(EMPTY, "pieces()", DigitalLine::pieces, 0);
        pieceEnd(EMPTY, 0, -1);
        pieceEnd(EMPTY, -1, -1);
        DigitalLine emptied = curve(FULL);
        emptied.pop(24);
        due("emptied: pieces()", emptied.pieces(), 0);
        due("emptied: pieceEnd(0)", emptied.pieceEnd(0), -1);
    }

    private static void questionsChangeNothing() {
        for (String moves : CURVES) {
            DigitalLine line = curve(moves);
            String before = answersOf(line);
            due("'" + moves + "' asked twice", answersOf(line), before);
            dueCurve("'" + moves + "' asked twice", line, moves);
            int[] wrongNumbers = outside(0, moves.length());
            for (int k : wrongNumbers) {
                askAll(moves, k);
            }
            for (int k = 0; k <= moves.length(); k++) {
                askAll(moves, k);
            }
        }
    }

    private static void askAll(String moves, int k) {
        DigitalLine line = curve(moves);
        line.moves();
        line.moveAt(k);
        line.pointX(k);
        line.pointY(k);
        line.straight(0, k);
        line.straight(k, moves.length());
        line.reach(k);
        line.reachBack(k);
        line.pieces();
        line.pieceEnd(k);
        line.fewest(0, k);
        line.fewest(k, moves.length());
        line.longest();
        line.maximal();
        dueCurve("'" + moves + "' all questions on " + k + ", then", line, moves);
    }

    private static void refusedCallsChangeNothing() {
        for (String moves : CURVES) {
            DigitalLine line = curve(moves);
            int n = moves.length();
            for (int wrongMove : outside(0, 7)) {
                due("push(" + wrongMove + ")", line.push(wrongMove), -1);
                due("set(0, " + wrongMove + ")", line.set(0, wrongMove), n == 0 ? -1 : -2);
            }
            for (int wrongCount : outside(0, n)) {
                due("pop(" + wrongCount + ")", line.pop(wrongCount), -1);
            }
            due("draw(80, 12, 1)", line.draw(80, 12, 1), -1);
            due("draw(0, 0, 1)", line.draw(0, 0, 1), -2);
            due("draw(16, 1, 1)", line.draw(16, 1, 1), -2);
            due("draw(0, 1, 0)", line.draw(0, 1, 0), -3);
            due("draw(0, 1, 25)", line.draw(0, 1, 25), -3);
            due("set(" + n + ", 0)", line.set(n, 0), -1);
            due("set(-1, 0)", line.set(-1, 0), -1);
            if (n > 0) {
                due("draw(9, 12, " + (25 - n) + ")", line.draw(9, 12, 25 - n), -4);
            }
            if (n == 24) {
                due("push(3)", line.push(3), -2);
            }
            due("'" + moves + "' behind refused calls", answersOf(line), answersOf(curve(moves)));
            goOnBehindRefusedCalls(line, moves);
        }
    }

    private static void goOnBehindRefusedCalls(DigitalLine line, String moves) {
        int n = moves.length();
        if (n < 24) {
            due("'" + moves + "' refused calls, push(6)", line.push(6), n + 1);
            dueCurve("'" + moves + "' refused calls, push(6)", line, moves + "6");
        } else {
            due("'" + moves + "' refused calls, pop(1)", line.pop(1), 23);
            dueCurve("'" + moves + "' refused calls, pop(1)", line, moves.substring(0, 23));
        }
    }

    private static void orderOfTests() {
        for (int move : outside(0, 7)) {
            push(FULL, move, -1, FULL);
            set(SOME, 10, move, -1, SOME);
            set(SOME, -1, move, -1, SOME);
            set(EMPTY, 0, move, -1, EMPTY);
        }
        // draw: each of its four tests fails or holds; the first that fails gives the answer.
        int[] specs = {0, -1, 80};
        int[][] runs = {{1, 0}, {0, 0}, {13, 0}, {1, 2}};
        int[] counts = {14, 0, 25};
        for (String before : new String[] {SOME, "01230123012"}) {
            for (int spec : specs) {
                for (int[] runAndRise : runs) {
                    for (int count : counts) {
                        orderOfDrawTests(before, spec, runAndRise, count);
                    }
                }
            }
        }
    }

    private static void orderOfDrawTests(String before, int spec, int[] runAndRise, int count) {
        int run = runAndRise[0];
        int rise = runAndRise[1];
        boolean room = before.length() + count <= 24;
        int whole = spec == 0 ? 8 * rise : spec;
        boolean runIsWrong = run != 1 || rise > run;
        int refusal = spec != 0 ? -1 : runIsWrong ? -2 : count != 14 ? -3 : -4;
        if (refusal == -4 && room) {
            draw(before, whole, run, count, 24, before + "00000000000000");
        } else {
            draw(before, whole, run, count, refusal, before);
        }
    }

    // ---- the changes

    private static void newObject() {
        check(EMPTY, "moves()", DigitalLine::moves, 0, EMPTY);
        DigitalLine used = curve(FULL);
        due("a new object behind a full one: moves()", new DigitalLine().moves(), 0);
        due("the full one: moves()", used.moves(), 24);
    }

    private static void pushOutside() {
        for (String before : CURVES) {
            for (int move : outside(0, 7)) {
                push(before, move, -1, before);
            }
        }
        for (int move = 0; move <= 7; move++) {
            push(SOME, move, 11, SOME + move);
        }
    }

    private static void pushFull() {
        for (int move = 0; move <= 7; move++) {
            push(FULL, move, -2, FULL);
            push(FULL_LINE, move, -2, FULL_LINE);
            push(ALMOST, move, 24, ALMOST + move);
        }
        DigitalLine drawn = new DigitalLine();
        drawn.draw(0, 1, 24);
        due("drawn full: push(0)", drawn.push(0), -2);
        drawn.reverse();
        due("drawn full, reverse(): push(0)", drawn.push(0), -2);
        drawn.pop(1);
        due("drawn full, pop(1): push(0)", drawn.push(0), 24);
        due("full again: push(0)", drawn.push(0), -2);
    }

    private static void pushUpToFull() {
        push(EMPTY, 0, 1, "0");
        push(EMPTY, 7, 1, "7");
        DigitalLine line = new DigitalLine();
        for (int k = 1; k <= 24; k++) {
            due("push number " + k, line.push(k % 8), k);
        }
    }

    private static void popOutside() {
        for (String before : CURVES) {
            for (int count : outside(0, before.length())) {
                pop(before, count, -1, before);
            }
        }
    }

    private static void popNoneToAll() {
        for (String before : CURVES) {
            for (int count = 0; count <= before.length(); count++) {
                int left = before.length() - count;
                pop(before, count, left, before.substring(0, left));
            }
        }
        DigitalLine line = curve("000000");
        line.pop(3);
        due("000000, pop(3): reach(0)", line.reach(0), 3);
        due("000000, pop(3): longest()", line.longest(), 3);
        due("000000, pop(3), pop(4)", line.pop(4), -1);
        due("000000, pop(3), push(2)", line.push(2), 4);
        dueCurve("000000, pop(3), push(2)", line, "0002");
    }

    private static void drawEveryLine() {
        for (int spec = 0; spec <= 79; spec++) {
            for (int run = 1; run <= 12; run++) {
                if (spec / 8 <= run) {
                    draw(EMPTY, spec, run, 24, 24, lineOf(spec / 8, spec % 8, run, 24));
                } else {
                    draw(EMPTY, spec, run, 24, -2, EMPTY);
                }
            }
        }
        draw(EMPTY, 15, 2, 6, 6, "707070");
        // k begins at 0 for each line, not where the curve ends.
        draw("0", 8, 2, 3, 4, "0010");
        draw("456", 79, 10, 11, 14, "45670000000007");
    }

    private static String lineOf(int rise, int u, int run, int count) {
        StringBuilder text = new StringBuilder();
        for (int k = 0; k < count; k++) {
            boolean climbs = Math.floorDiv((k + 1) * rise, run) > Math.floorDiv(k * rise, run);
            text.append(climbs ? (u + 1) % 8 : u);
        }
        return text.toString();
    }

    private static void drawSpecOutside() {
        for (String before : CURVES) {
            for (int spec : outside(0, 79)) {
                draw(before, spec, 12, 1, -1, before);
            }
        }
        draw(EMPTY, -7, 12, 1, -1, EMPTY);
        draw(EMPTY, 0, 12, 1, 1, "0");
        draw(EMPTY, 7, 12, 1, 1, "7");
        draw(EMPTY, 79, 9, 1, 1, "0");
        draw(EMPTY, 72, 12, 2, 2, "01");
    }

    private static void drawRunOutside() {
        for (String before : CURVES) {
            for (int run : outside(1, 12)) {
                draw(before, 0, run, 1, -2, before);
                draw(before, 79, run, 1, -2, before);
            }
        }
        for (int rise = 2; rise <= 9; rise++) {
            draw(ONE, 8 * rise, rise - 1, 2, -2, ONE);
            draw(ONE, 8 * rise + 7, rise - 1, 2, -2, ONE);
            draw(ONE, 8 * rise, rise, 2, 3, "511");
            draw(ONE, 8 * rise + 7, rise, 2, 3, "500");
        }
        draw(EMPTY, 0, 1, 2, 2, "00");
        draw(EMPTY, 8, 1, 2, 2, "11");
        draw(EMPTY, 8, 12, 13, 13, "0000000000010");
    }

    private static void drawCountOutside() {
        for (String before : CURVES) {
            for (int count : outside(1, 24)) {
                draw(before, 0, 1, count, -3, before);
            }
        }
        draw(EMPTY, 3, 1, 1, 1, "3");
        draw(EMPTY, 0, 1, 24, 24, FULL_LINE);
    }

    private static void drawBeyondFull() {
        for (int n = 0; n <= 24; n++) {
            String before = FULL.substring(0, n);
            for (int count = 1; count <= 24; count++) {
                if (n + count > 24) {
                    draw(before, 6, 1, count, -4, before);
                }
            }
            if (n < 24) {
                draw(before, 6, 1, 24 - n, 24, before + turned(FULL_LINE, 6).substring(n));
            }
        }
        draw(SOME, 6, 1, 1, 11, SOME + "6");
    }

    private static void setNoSuchMove() {
        for (String before : CURVES) {
            for (int k : outside(0, before.length() - 1)) {
                set(before, k, 0, -1, before);
            }
        }
        DigitalLine popped = curve("000");
        popped.pop(1);
        due("000, pop(1): set(2, 1)", popped.set(2, 1), -1);
        due("000, pop(1): set(1, 1)", popped.set(1, 1), 0);
    }

    private static void setOutside() {
        for (int move : outside(0, 7)) {
            set(ONE, 0, move, -2, ONE);
            set(SOME, 9, move, -2, SOME);
            set(FULL, 0, move, -2, FULL);
            set(FULL, 23, move, -2, FULL);
        }
        for (int move = 0; move <= 7; move++) {
            set(ONE, 0, move, 5, "" + move);
        }
    }

    private static void setFirstAndLast() {
        set(SOME, 0, 7, 0, "7011223070");
        set(SOME, 9, 7, 0, "0011223077");
        set(FULL, 0, 6, 0, "6" + FULL.substring(1));
        set(FULL, 23, 6, 7, ALMOST + "6");
        // The move that is there already.
        set(FULL, 23, 7, 7, FULL);
        set(ONE, 0, 5, 5, ONE);
    }

    private static void reverseWrapsAround() {
        reverse(EMPTY, EMPTY);
        reverse("0", "4");
        reverse("3", "7");
        reverse("4", "0");
        reverse("7", "3");
        reverse("01", "54");
        reverse("01237", "37654");
        reverse(FULL, "321076543210765432107654");
        reverse(ALMOST, "21076543210765432107654");
        reverse(FULL_LINE, turned(FULL_LINE, 4));
    }

    private static void reverseAndTurnAnswer() {
        for (String moves : CURVES) {
            due("'" + moves + "' reverse()", curve(moves).reverse(), moves.length());
            due("'" + moves + "' turn(0)", curve(moves).turn(0), moves.length());
            due("'" + moves + "' turn(" + MAX + ")", curve(moves).turn(MAX), moves.length());
            due("'" + moves + "' turn(" + MIN + ")", curve(moves).turn(MIN), moves.length());
        }
    }

    private static void turnByAnyInt() {
        for (String before : CURVES) {
            for (int turns = -17; turns <= 17; turns++) {
                turn(before, turns, turned(before, (turns + 24) % 8));
            }
        }
        // MAX is 7 and MIN is 0 modulo 8.
        for (int less = 0; less <= 8; less++) {
            turn(FULL, MAX - less, turned(FULL, (15 - less) % 8));
            turn(FULL, MIN + less, turned(FULL, less % 8));
        }
        turn("7", MAX, "6");
        turn("1", MAX, "0");
        turn("0", MIN, "0");
        turn("0", -1, "7");
        turn("7", 1, "0");
        turn("0", -1000000007, "1");
        turn("0", 1000000007, "7");
    }

    // ---- the questions

    private static void movesNoneToFull() {
        for (String moves : CURVES) {
            ask(moves, "moves()", DigitalLine::moves, moves.length());
        }
    }

    private static void moveAtOutside() {
        for (String moves : CURVES) {
            for (int k : outside(0, moves.length() - 1)) {
                ask(moves, "moveAt(" + k + ")", line -> line.moveAt(k), -1);
            }
        }
        ask(ONE, "moveAt(0)", line -> line.moveAt(0), 5);
        ask(FULL, "moveAt(0)", line -> line.moveAt(0), 0);
        ask(FULL, "moveAt(23)", line -> line.moveAt(23), 7);
        DigitalLine popped = curve("777");
        popped.pop(1);
        due("777, pop(1): moveAt(2)", popped.moveAt(2), -1);
        due("777, pop(1): moveAt(1)", popped.moveAt(1), 7);
    }

    private static void pointXOutside() {
        for (String moves : CURVES) {
            for (int k : outside(0, moves.length())) {
                ask(moves, "pointX(" + k + ")", line -> line.pointX(k), -1000);
            }
        }
        ask(SOME, "pointX(10)", line -> line.pointX(10), 6);
    }

    private static void pointYOutside() {
        for (String moves : CURVES) {
            for (int k : outside(0, moves.length())) {
                ask(moves, "pointY(" + k + ")", line -> line.pointY(k), -1000);
            }
        }
        ask(SOME, "pointY(10)", line -> line.pointY(10), 4);
    }

    private static void straightOutside() {
        for (String moves : CURVES) {
            int n = moves.length();
            for (int k : outside(0, n)) {
                straight(moves, k, n, -1);
                straight(moves, 0, k, -1);
                straight(moves, k, k, -1);
            }
            for (int s = 1; s <= n; s++) {
                straight(moves, s, s - 1, -1);
                straight(moves, s, 0, -1);
            }
            straight(moves, MIN, MAX, -1);
            straight(moves, MAX, MIN, -1);
            straight(moves, 0, 0, 1);
            straight(moves, n, n, 1);
        }
        straight(SOME, 0, 3, 1);
        straight(SOME, 0, 4, 0);
    }

    private static void reachOutside() {
        for (String moves : CURVES) {
            int n = moves.length();
            for (int s : outside(0, n)) {
                ask(moves, "reach(" + s + ")", line -> line.reach(s), -1);
            }
            ask(moves, "reach(" + n + ")", line -> line.reach(n), n);
        }
        ask(FULL_LINE, "reach(0)", line -> line.reach(0), 24);
        ask(FULL_LINE, "reach(23)", line -> line.reach(23), 24);
        ask("000000000000000000000004", "reach(0)", line -> line.reach(0), 23);
        ask("000000000000000000000002", "reach(22)", line -> line.reach(22), 23);
        ask(FULL_ZIGZAG, "reach(0)", line -> line.reach(0), 1);
        ask(FULL_ZIGZAG, "reach(23)", line -> line.reach(23), 24);
    }

    private static void reachBackOutside() {
        for (String moves : CURVES) {
            for (int e : outside(0, moves.length())) {
                ask(moves, "reachBack(" + e + ")", line -> line.reachBack(e), -1);
            }
            ask(moves, "reachBack(0)", line -> line.reachBack(0), 0);
        }
        ask(FULL_LINE, "reachBack(24)", line -> line.reachBack(24), 0);
        ask(FULL_LINE, "reachBack(1)", line -> line.reachBack(1), 0);
        ask("400000000000000000000000", "reachBack(24)", line -> line.reachBack(24), 1);
        ask("200000000000000000000000", "reachBack(2)", line -> line.reachBack(2), 1);
        ask(FULL_ZIGZAG, "reachBack(24)", line -> line.reachBack(24), 23);
        ask(FULL_ZIGZAG, "reachBack(1)", line -> line.reachBack(1), 0);
    }

    private static void piecesNoneToFull() {
        ask(EMPTY, "pieces()", DigitalLine::pieces, 0);
        ask(ONE, "pieces()", DigitalLine::pieces, 1);
        ask(FULL_LINE, "pieces()", DigitalLine::pieces, 1);
        ask(FULL, "pieces()", DigitalLine::pieces, 12);
        ask(FULL_ZIGZAG, "pieces()", DigitalLine::pieces, 24);
    }

    private static void pieceEndOutside() {
        int[] counts = {0, 1, 12, 1, 24};
        String[] curves = {EMPTY, ONE, FULL, FULL_LINE, FULL_ZIGZAG};
        for (int c = 0; c < curves.length; c++) {
            for (int piece : outside(0, counts[c] - 1)) {
                pieceEnd(curves[c], piece, -1);
            }
            for (int piece = counts[c]; piece <= 25; piece++) {
                pieceEnd(curves[c], piece, -1);
            }
        }
        pieceEnd(FULL, 0, 2);
        pieceEnd(FULL, 11, 24);
        pieceEnd(FULL_LINE, 0, 24);
        pieceEnd(FULL_ZIGZAG, 0, 1);
        pieceEnd(FULL_ZIGZAG, 23, 24);
    }

    private static void fewestNoneToFull() {
        for (String moves : CURVES) {
            for (int k = 0; k <= moves.length(); k++) {
                fewest(moves, k, k, 0);
            }
            for (int k = 1; k <= moves.length(); k++) {
                fewest(moves, k - 1, k, 1);
            }
        }
        fewest(FULL_LINE, 0, 24, 1);
        fewest(FULL_ZIGZAG, 0, 24, 24);
        fewest(FULL_ZIGZAG, 1, 24, 23);
        fewest(FULL_ZIGZAG, 0, 23, 23);
        fewest(FULL, 0, 24, 12);
        fewest(FULL, 1, 24, 12);
        fewest(FULL, 1, 23, 11);
        // The last piece may end before the curve's own pieces do.
        fewest("001122", 0, 5, 2);
        fewest("000000", 2, 4, 1);
    }

    private static void fewestOutside() {
        for (String moves : CURVES) {
            int n = moves.length();
            for (int k : outside(0, n)) {
                fewest(moves, k, n, -1);
                fewest(moves, 0, k, -1);
                fewest(moves, k, k, -1);
            }
            for (int s = 1; s <= n; s++) {
                fewest(moves, s, s - 1, -1);
                fewest(moves, s, 0, -1);
            }
            fewest(moves, MIN, MAX, -1);
            fewest(moves, MAX, MIN, -1);
        }
    }

    private static void longestNoneToFull() {
        ask(EMPTY, "longest()", DigitalLine::longest, 0);
        ask(ONE, "longest()", DigitalLine::longest, 1);
        ask(FULL, "longest()", DigitalLine::longest, 2);
        ask(FULL_ZIGZAG, "longest()", DigitalLine::longest, 1);
        ask(FULL_LINE, "longest()", DigitalLine::longest, 24);
        ask("000000000000000000000004", "longest()", DigitalLine::longest, 23);
        ask("400000000000000000000000", "longest()", DigitalLine::longest, 23);
    }

    private static void maximalNoneToFull() {
        // Pieces at either end of the curve, where there is no point s - 1 or no point e + 1.
        ask(EMPTY, "maximal()", DigitalLine::maximal, 0);
        ask(ONE, "maximal()", DigitalLine::maximal, 1);
        ask("04", "maximal()", DigitalLine::maximal, 2);
        ask("0044", "maximal()", DigitalLine::maximal, 2);
        ask("012", "maximal()", DigitalLine::maximal, 2);
        ask(FULL_LINE, "maximal()", DigitalLine::maximal, 1);
        ask(FULL, "maximal()", DigitalLine::maximal, 23);
        ask(FULL_ZIGZAG, "maximal()", DigitalLine::maximal, 24);
        ask("000000000000000000000004", "maximal()", DigitalLine::maximal, 2);
        DigitalLine popped = curve("000000");
        popped.pop(3);
        due("000000, pop(3): maximal()", popped.maximal(), 1);
    }
}
