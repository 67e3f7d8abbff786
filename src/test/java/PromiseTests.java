// For each promise: ordinary inputs, the edges that the document names, and wrong inputs.
public final class PromiseTests {
    private static final int[] ODD_INTS = {
        Integer.MIN_VALUE, Integer.MIN_VALUE + 1, -1000, -25, -2, -1,
        25, 26, 1000, Integer.MAX_VALUE - 1, Integer.MAX_VALUE};

    private static int wrong = 0;

    public static void main(String[] args) {
        promise1NewObject();
        promise2Push();
        promise3Pop();
        promise4DrawMoves();
        promise4DrawRefusals();
        promise4DrawOrderOfTests();
        promise5Set();
        promise6Reverse();
        promise7Turn();
        promise8Moves();
        promise9MoveAt();
        promises10And11Points();
        promise12Straight();
        promise12StraightSteps();
        promise13Reach();
        promise14ReachBack();
        promises15And16Pieces();
        promise17Fewest();
        promise18Longest();
        promise19Maximal();
        questionsChangeNothing();
        objectsAreApart();
        runOfTheReadme();
        System.out.println(wrong == 0 ? "all answers are as due" : wrong + " answers are not as due");
        if (wrong != 0) {
            System.exit(1);
        }
    }

    private static void due(String call, int got, int want) {
        if (got != want) {
            wrong++;
            System.out.println(call + " answered " + got + ", due is " + want);
        }
    }

    private static void dueMoves(String after, DigitalLine line, String want) {
        String got = movesOf(line);
        if (!got.equals(want)) {
            wrong++;
            System.out.println("after " + after + " the moves are '" + got + "', due are '" + want + "'");
        }
    }

    private static String movesOf(DigitalLine line) {
        StringBuilder text = new StringBuilder();
        for (int k = 0; k < line.moves(); k++) {
            text.append(line.moveAt(k));
        }
        return text.toString();
    }

    private static DigitalLine curve(String moves) {
        DigitalLine line = new DigitalLine();
        for (int k = 0; k < moves.length(); k++) {
            due("push " + k + " of " + moves, line.push(moves.charAt(k) - '0'), k + 1);
        }
        return line;
    }

    private static void promise1NewObject() {
        DigitalLine line = new DigitalLine();
        due("new: moves()", line.moves(), 0);
        due("new: moveAt(0)", line.moveAt(0), -1);
        due("new: pointX(0)", line.pointX(0), 0);
        due("new: pointY(0)", line.pointY(0), 0);
        due("new: pointX(1)", line.pointX(1), -1000);
        due("new: pointY(1)", line.pointY(1), -1000);
        due("new: straight(0, 0)", line.straight(0, 0), 1);
        due("new: straight(0, 1)", line.straight(0, 1), -1);
        due("new: reach(0)", line.reach(0), 0);
        due("new: reachBack(0)", line.reachBack(0), 0);
        due("new: pieces()", line.pieces(), 0);
        due("new: pieceEnd(0)", line.pieceEnd(0), -1);
        due("new: fewest(0, 0)", line.fewest(0, 0), 0);
        due("new: longest()", line.longest(), 0);
        due("new: maximal()", line.maximal(), 0);
        due("new: pop(0)", line.pop(0), 0);
        due("new: reverse()", line.reverse(), 0);
        due("new: turn(3)", line.turn(3), 0);
        due("new: set(0, 0)", line.set(0, 0), -1);
    }

    private static void promise2Push() {
        DigitalLine line = curve("01234567");
        dueMoves("eight pushes", line, "01234567");
        for (int odd : ODD_INTS) {
            due("push(" + odd + ")", line.push(odd), -1);
        }
        due("push(8)", line.push(8), -1);
        dueMoves("refused pushes", line, "01234567");

        DigitalLine full = curve("012345670123456701234567");
        due("full: push(0)", full.push(0), -2);
        due("full: push(7)", full.push(7), -2);
        due("full: push(8)", full.push(8), -1);
        due("full: push(-1)", full.push(-1), -1);
        dueMoves("pushes on a full curve", full, "012345670123456701234567");
        due("full: pop(1)", full.pop(1), 23);
        due("room again: push(2)", full.push(2), 24);
        dueMoves("pop and push", full, "012345670123456701234562");
    }

    private static void promise3Pop() {
        DigitalLine line = curve("0123456");
        due("pop(0)", line.pop(0), 7);
        due("pop(8)", line.pop(8), -1);
        for (int odd : ODD_INTS) {
            due("pop(" + odd + ")", line.pop(odd), -1);
        }
        dueMoves("refused pops", line, "0123456");
        due("pop(2)", line.pop(2), 5);
        dueMoves("pop(2)", line, "01234");
        due("popped: pointX(5)", line.pointX(5), 0);
        due("popped: pointY(5)", line.pointY(5), 3);
        due("popped: pointX(6)", line.pointX(6), -1000);
        due("popped: moveAt(5)", line.moveAt(5), -1);
        due("pop(5)", line.pop(5), 0);
        due("empty: pop(1)", line.pop(1), -1);
        due("empty: push(6)", line.push(6), 1);
        due("new point: pointX(1)", line.pointX(1), 0);
        due("new point: pointY(1)", line.pointY(1), -1);
    }

    private static void dueDraw(int spec, int run, int count, String want) {
        DigitalLine line = new DigitalLine();
        String call = "draw(" + spec + ", " + run + ", " + count + ")";
        due(call, line.draw(spec, run, count), count);
        dueMoves(call, line, want);
    }

    private static void promise4DrawMoves() {
        dueDraw(0, 1, 1, "0");
        dueDraw(7, 1, 3, "777");
        dueDraw(5, 12, 24, "555555555555555555555555");
        dueDraw(8, 1, 3, "111");
        dueDraw(15, 1, 3, "000");
        dueDraw(8, 2, 6, "010101");
        dueDraw(8 + 7, 2, 6, "707070");
        dueDraw(16 + 3, 5, 10, "3343433434");
        dueDraw(24, 7, 14, "00101010010101");
        dueDraw(8 + 2, 12, 24, "222222222223222222222223");
        dueDraw(72 + 4, 9, 4, "5555");
        dueDraw(79, 10, 11, "70000000007");
        dueDraw(72, 12, 8, "01110111");

        DigitalLine line = curve("456");
        due("behind: draw(8, 2, 4)", line.draw(8, 2, 4), 7);
        dueMoves("draw behind three moves", line, "4560101");
        due("behind: pointX(7)", line.pointX(7), 2);
        due("behind: pointY(7)", line.pointY(7), 0);
        due("fill: draw(2, 1, 17)", line.draw(2, 1, 17), 24);
        dueMoves("draw up to 24", line, "456010122222222222222222");
        due("full: draw(2, 1, 1)", line.draw(2, 1, 1), -4);
    }

    private static void promise4DrawRefusals() {
        DigitalLine line = curve("12");
        for (int odd : ODD_INTS) {
            if (odd < 0 || odd > 79) {
                due("draw(" + odd + ", 9, 1)", line.draw(odd, 9, 1), -1);
            }
            due("draw(0, " + odd + ", 1)", line.draw(0, odd, 1), -2);
            due("draw(0, 1, " + odd + ")", line.draw(0, 1, odd), -3);
        }
        due("draw(80, 12, 1)", line.draw(80, 12, 1), -1);
        due("draw(0, 0, 1)", line.draw(0, 0, 1), -2);
        due("draw(0, 13, 1)", line.draw(0, 13, 1), -2);
        due("draw(79, 8, 1)", line.draw(79, 8, 1), -2);
        due("draw(16, 1, 1)", line.draw(16, 1, 1), -2);
        due("draw(0, 1, 0)", line.draw(0, 1, 0), -3);
        due("draw(0, 1, 23)", line.draw(0, 1, 23), -4);
        due("draw(0, 1, 24)", line.draw(0, 1, 24), -4);
        dueMoves("refused draws", line, "12");
        due("draw(0, 1, 22)", line.draw(0, 1, 22), 24);
    }

    private static void promise4DrawOrderOfTests() {
        DigitalLine full = new DigitalLine();
        due("draw(0, 1, 24)", full.draw(0, 1, 24), 24);
        due("all wrong: draw(80, 0, 0)", full.draw(80, 0, 0), -1);
        due("all wrong: draw(-1, 13, 25)", full.draw(-1, 13, 25), -1);
        due("run and count wrong: draw(0, 0, 0)", full.draw(0, 0, 0), -2);
        due("rise and count wrong: draw(79, 8, 25)", full.draw(79, 8, 25), -2);
        due("count wrong: draw(0, 1, 25)", full.draw(0, 1, 25), -3);
        due("count wrong: draw(0, 1, 0)", full.draw(0, 1, 0), -3);
        due("no room: draw(0, 1, 1)", full.draw(0, 1, 1), -4);
        due("full: moves()", full.moves(), 24);
    }

    private static void promise5Set() {
        DigitalLine line = curve("0123");
        due("set(0, 7)", line.set(0, 7), 0);
        due("set(3, 0)", line.set(3, 0), 3);
        due("set(1, 1)", line.set(1, 1), 1);
        dueMoves("sets", line, "7120");
        due("set: pointX(4)", line.pointX(4), 3);
        due("set: pointY(4)", line.pointY(4), 1);
        due("set: pointX(1)", line.pointX(1), 1);
        due("set: pointY(1)", line.pointY(1), -1);
        due("set(4, 0)", line.set(4, 0), -1);
        due("set(4, 8)", line.set(4, 8), -1);
        due("set(-1, -1)", line.set(-1, -1), -1);
        due("set(0, 8)", line.set(0, 8), -2);
        for (int odd : ODD_INTS) {
            due("set(" + odd + ", 0)", line.set(odd, 0), -1);
            due("set(0, " + odd + ")", line.set(0, odd), -2);
        }
        dueMoves("refused sets", line, "7120");
        due("set: pop(1)", line.pop(1), 3);
        due("popped: set(3, 0)", line.set(3, 0), -1);
    }

    private static void promise6Reverse() {
        DigitalLine odd = curve("01237");
        due("reverse()", odd.reverse(), 5);
        dueMoves("reverse of 01237", odd, "37654");
        due("reverse: pointX(2)", odd.pointX(2), 0);
        due("reverse: pointY(2)", odd.pointY(2), 0);
        due("reverse: pointX(5)", odd.pointX(5), -2);
        due("reverse: pointY(5)", odd.pointY(5), -2);
        due("reverse() again", odd.reverse(), 5);
        dueMoves("reverse twice", odd, "01237");

        DigitalLine even = curve("0156");
        due("even: reverse()", even.reverse(), 4);
        dueMoves("reverse of 0156", even, "2154");
        DigitalLine one = curve("3");
        due("one: reverse()", one.reverse(), 1);
        dueMoves("reverse of 3", one, "7");
        DigitalLine full = curve("000000000000111111111111");
        due("full: reverse()", full.reverse(), 24);
        dueMoves("reverse of a full curve", full, "555555555555444444444444");
    }

    private static void dueTurn(String before, int turns, String want) {
        DigitalLine line = curve(before);
        due("turn(" + turns + ")", line.turn(turns), before.length());
        dueMoves("turn(" + turns + ") of " + before, line, want);
    }

    private static void promise7Turn() {
        dueTurn("01234567", 0, "01234567");
        dueTurn("01234567", 1, "12345670");
        dueTurn("01234567", 7, "70123456");
        dueTurn("01234567", 8, "01234567");
        dueTurn("01234567", 100, "45670123");
        dueTurn("01234567", -1, "70123456");
        dueTurn("01234567", -8, "01234567");
        dueTurn("01234567", -13, "34567012");
        dueTurn("01234567", Integer.MAX_VALUE, "70123456");
        dueTurn("01234567", Integer.MAX_VALUE - 2, "56701234");
        dueTurn("01234567", Integer.MIN_VALUE, "01234567");
        dueTurn("01234567", Integer.MIN_VALUE + 3, "34567012");

        DigitalLine line = curve("001");
        due("turn(2)", line.turn(2), 3);
        due("turned: pointX(3)", line.pointX(3), -1);
        due("turned: pointY(3)", line.pointY(3), 3);
        due("turned: pointX(2)", line.pointX(2), 0);
        due("turned: pointY(2)", line.pointY(2), 2);
    }

    private static void promise8Moves() {
        DigitalLine line = curve("012");
        due("moves()", line.moves(), 3);
        line.draw(0, 1, 5);
        due("drawn: moves()", line.moves(), 8);
        line.pop(6);
        due("popped: moves()", line.moves(), 2);
        line.push(9);
        line.pop(3);
        line.draw(0, 1, 23);
        due("refused: moves()", line.moves(), 2);
        line.reverse();
        line.turn(5);
        line.set(0, 0);
        due("changed: moves()", line.moves(), 2);
    }

    private static void promise9MoveAt() {
        DigitalLine line = curve("7350");
        due("moveAt(0)", line.moveAt(0), 7);
        due("moveAt(1)", line.moveAt(1), 3);
        due("moveAt(3)", line.moveAt(3), 0);
        due("moveAt(4)", line.moveAt(4), -1);
        for (int odd : ODD_INTS) {
            due("moveAt(" + odd + ")", line.moveAt(odd), -1);
        }
        DigitalLine full = curve("000000000000000000000006");
        due("full: moveAt(23)", full.moveAt(23), 6);
        due("full: moveAt(24)", full.moveAt(24), -1);
    }

    private static void promises10And11Points() {
        int[] stepX = {1, 1, 0, -1, -1, -1, 0, 1};
        int[] stepY = {0, 1, 1, 1, 0, -1, -1, -1};
        for (int move = 0; move < 8; move++) {
            DigitalLine line = new DigitalLine();
            for (int k = 1; k <= 24; k++) {
                line.push(move);
                due("move " + move + ": pointX(" + k + ")", line.pointX(k), k * stepX[move]);
                due("move " + move + ": pointY(" + k + ")", line.pointY(k), k * stepY[move]);
            }
            due("move " + move + ": pointX(0)", line.pointX(0), 0);
            due("move " + move + ": pointY(0)", line.pointY(0), 0);
            due("move " + move + ": pointX(25)", line.pointX(25), -1000);
            due("move " + move + ": pointY(25)", line.pointY(25), -1000);
        }
        DigitalLine line = curve("0112");
        due("pointX(4)", line.pointX(4), 3);
        due("pointY(4)", line.pointY(4), 3);
        for (int odd : ODD_INTS) {
            due("pointX(" + odd + ")", line.pointX(odd), -1000);
            due("pointY(" + odd + ")", line.pointY(odd), -1000);
        }
        due("pointX(5)", line.pointX(5), -1000);
        due("pointY(5)", line.pointY(5), -1000);
    }

    private static void dueStraight(String moves, int want) {
        for (int turns = 0; turns < 8; turns++) {
            DigitalLine line = curve(moves);
            line.turn(turns);
            due(moves + " turned by " + turns + ": straight", line.straight(0, moves.length()), want);
            line.reverse();
            due(moves + " turned by " + turns + " and reversed: straight", line.straight(0, moves.length()), want);
        }
    }

    private static void promise12Straight() {
        DigitalLine line = curve("0011");
        due("straight(0, 4)", line.straight(0, 4), 0);
        due("straight(0, 3)", line.straight(0, 3), 1);
        due("straight(1, 4)", line.straight(1, 4), 1);
        for (int k = 0; k <= 4; k++) {
            due("straight(" + k + ", " + k + ")", line.straight(k, k), 1);
        }
        due("straight(3, 4)", line.straight(3, 4), 1);
        due("straight(4, 5)", line.straight(4, 5), -1);
        due("straight(5, 5)", line.straight(5, 5), -1);
        due("straight(3, 2)", line.straight(3, 2), -1);
        due("straight(-1, 2)", line.straight(-1, 2), -1);
        due("straight(-1, -1)", line.straight(-1, -1), -1);
        for (int odd : ODD_INTS) {
            due("straight(0, " + odd + ")", line.straight(0, odd), -1);
            due("straight(" + odd + ", 4)", line.straight(odd, 4), -1);
            due("straight(" + odd + ", " + odd + ")", line.straight(odd, odd), -1);
        }
    }

    private static void promise12StraightSteps() {
        dueStraight("0", 1);
        dueStraight("01", 1);
        dueStraight("10", 1);
        dueStraight("02", 0);
        dueStraight("03", 0);
        dueStraight("04", 0);
        dueStraight("012", 0);
        dueStraight("107", 0);
        dueStraight("701", 0);
        dueStraight("0107", 0);
        dueStraight("000000000000000000000000", 1);
        dueStraight("0110", 1);
        dueStraight("0011", 0);
        dueStraight("01011", 1);
        dueStraight("010110", 1);
        dueStraight("010011", 0);
        dueStraight("000000000001000000000001", 1);
        dueStraight("000000000001111111111111", 0);
        // The one 1 that a line of 24 points across has room for, wherever it stands.
        dueStraight("100000000000000000000000", 1);
        dueStraight("000000000000000000000001", 1);
        dueStraight("000000000000100000000000", 1);
        dueStraight("111111111111011111111111", 1);
        // Runs of 0 between two 1s differ by two.
        dueStraight("1000010010", 0);
        dueStraight("100010010", 1);
        // Slope 10 / 23 (a line that only a great p, q holds) and the same with two moves changed about.
        dueStraight("00101010010101001010101", 1);
        dueStraight("00101010010100101010101", 0);
    }

    private static void promise13Reach() {
        DigitalLine line = curve("001122");
        due("reach(0)", line.reach(0), 3);
        due("reach(1)", line.reach(1), 4);
        due("reach(2)", line.reach(2), 5);
        due("reach(3)", line.reach(3), 6);
        due("reach(4)", line.reach(4), 6);
        due("reach(5)", line.reach(5), 6);
        due("reach(6)", line.reach(6), 6);
        due("reach(7)", line.reach(7), -1);
        for (int odd : ODD_INTS) {
            due("reach(" + odd + ")", line.reach(odd), -1);
        }
        DigitalLine turning = curve("0246");
        due("turning: reach(0)", turning.reach(0), 1);
        due("turning: reach(3)", turning.reach(3), 4);
        DigitalLine full = curve("333333333333333333333333");
        due("full: reach(0)", full.reach(0), 24);
        due("full: reach(24)", full.reach(24), 24);
        due("full: reach(25)", full.reach(25), -1);
        full.pop(4);
        due("popped: reach(0)", full.reach(0), 20);
    }

    private static void promise14ReachBack() {
        DigitalLine line = curve("001122");
        due("reachBack(0)", line.reachBack(0), 0);
        due("reachBack(1)", line.reachBack(1), 0);
        due("reachBack(3)", line.reachBack(3), 0);
        due("reachBack(4)", line.reachBack(4), 1);
        due("reachBack(5)", line.reachBack(5), 2);
        due("reachBack(6)", line.reachBack(6), 3);
        due("reachBack(7)", line.reachBack(7), -1);
        for (int odd : ODD_INTS) {
            due("reachBack(" + odd + ")", line.reachBack(odd), -1);
        }
        DigitalLine turning = curve("0246");
        due("turning: reachBack(4)", turning.reachBack(4), 3);
        due("turning: reachBack(1)", turning.reachBack(1), 0);
        DigitalLine full = curve("333333333333333333333333");
        due("full: reachBack(24)", full.reachBack(24), 0);
        due("full: reachBack(25)", full.reachBack(25), -1);
    }

    private static void promises15And16Pieces() {
        DigitalLine line = curve("001122");
        due("pieces()", line.pieces(), 2);
        due("pieceEnd(0)", line.pieceEnd(0), 3);
        due("pieceEnd(1)", line.pieceEnd(1), 6);
        due("pieceEnd(2)", line.pieceEnd(2), -1);
        due("pieceEnd(6)", line.pieceEnd(6), -1);
        for (int odd : ODD_INTS) {
            due("pieceEnd(" + odd + ")", line.pieceEnd(odd), -1);
        }
        DigitalLine zigzag = new DigitalLine();
        for (int k = 0; k < 24; k++) {
            zigzag.push(k % 2 * 4);
        }
        due("zigzag: pieces()", zigzag.pieces(), 24);
        for (int k = 0; k < 24; k++) {
            due("zigzag: pieceEnd(" + k + ")", zigzag.pieceEnd(k), k + 1);
        }
        due("zigzag: pieceEnd(24)", zigzag.pieceEnd(24), -1);
        DigitalLine one = curve("5");
        due("one: pieces()", one.pieces(), 1);
        due("one: pieceEnd(0)", one.pieceEnd(0), 1);
        due("one: pieceEnd(1)", one.pieceEnd(1), -1);
        one.pop(1);
        due("emptied: pieces()", one.pieces(), 0);
        due("emptied: pieceEnd(0)", one.pieceEnd(0), -1);
    }

    private static void promise17Fewest() {
        DigitalLine line = curve("001122");
        due("fewest(0, 6)", line.fewest(0, 6), 2);
        due("fewest(0, 3)", line.fewest(0, 3), 1);
        due("fewest(0, 4)", line.fewest(0, 4), 2);
        due("fewest(1, 4)", line.fewest(1, 4), 1);
        due("fewest(1, 6)", line.fewest(1, 6), 2);
        due("fewest(2, 3)", line.fewest(2, 3), 1);
        for (int k = 0; k <= 6; k++) {
            due("fewest(" + k + ", " + k + ")", line.fewest(k, k), 0);
        }
        due("fewest(3, 2)", line.fewest(3, 2), -1);
        due("fewest(0, 7)", line.fewest(0, 7), -1);
        due("fewest(7, 7)", line.fewest(7, 7), -1);
        due("fewest(-1, 6)", line.fewest(-1, 6), -1);
        for (int odd : ODD_INTS) {
            due("fewest(0, " + odd + ")", line.fewest(0, odd), -1);
            due("fewest(" + odd + ", 6)", line.fewest(odd, 6), -1);
            due("fewest(" + odd + ", " + odd + ")", line.fewest(odd, odd), -1);
        }
        DigitalLine square = curve("000022224444666600002222");
        due("square: fewest(0, 24)", square.fewest(0, 24), 6);
        due("square: fewest(2, 22)", square.fewest(2, 22), 6);
        due("square: fewest(4, 20)", square.fewest(4, 20), 4);
    }

    private static void promise18Longest() {
        due("001122: longest()", curve("001122").longest(), 3);
        due("0: longest()", curve("0").longest(), 1);
        due("0404: longest()", curve("0404").longest(), 1);
        due("first: longest()", curve("0000022").longest(), 5);
        due("last: longest()", curve("2200000").longest(), 5);
        due("middle: longest()", curve("2200000666").longest(), 5);
        DigitalLine full = new DigitalLine();
        full.draw(40, 11, 24);
        due("full: longest()", full.longest(), 24);
        full.set(12, 5);
        due("broken: longest()", full.longest(), 12);
    }

    private static void promise19Maximal() {
        due("0: maximal()", curve("0").maximal(), 1);
        due("000: maximal()", curve("000").maximal(), 1);
        due("0404: maximal()", curve("0404").maximal(), 4);
        due("012: maximal()", curve("012").maximal(), 2);
        // (0, 3), (1, 4), (2, 5), (3, 6).
        due("001122: maximal()", curve("001122").maximal(), 4);
        due("0022: maximal()", curve("0022").maximal(), 2);
        DigitalLine full = new DigitalLine();
        full.draw(40, 11, 24);
        due("full: maximal()", full.maximal(), 1);
        DigitalLine zigzag = new DigitalLine();
        for (int k = 0; k < 24; k++) {
            zigzag.push(k % 2 * 4);
        }
        due("zigzag: maximal()", zigzag.maximal(), 24);
    }

    private static void questionsChangeNothing() {
        DigitalLine line = curve("0011223070");
        for (int k = -1; k <= 11; k++) {
            line.moveAt(k);
            line.pointX(k);
            line.pointY(k);
            line.reach(k);
            line.reachBack(k);
            line.pieceEnd(k);
            line.straight(0, k);
            line.fewest(0, k);
        }
        line.moves();
        line.pieces();
        line.longest();
        line.maximal();
        dueMoves("questions", line, "0011223070");
        due("asked: pointX(10)", line.pointX(10), 6);
        due("asked: pointY(10)", line.pointY(10), 4);
    }

    private static void objectsAreApart() {
        DigitalLine one = curve("012");
        DigitalLine other = curve("4567");
        dueMoves("making another object", one, "012");
        one.turn(1);
        dueMoves("turning another object", other, "4567");
        dueMoves("turn(1)", one, "123");
    }

    // The run that README.md shows, so that what it says stays true.
    private static void runOfTheReadme() {
        DigitalLine line = new DigitalLine();
        due("README: draw(8 * 3 + 0, 7, 14)", line.draw(8 * 3 + 0, 7, 14), 14);
        due("README: straight(0, 14)", line.straight(0, 14), 1);
        due("README: push(1)", line.push(1), 15);
        due("README: push(1)", line.push(1), 16);
        due("README: straight(0, 16)", line.straight(0, 16), 0);
        due("README: reach(0)", line.reach(0), 14);
        due("README: pieces()", line.pieces(), 2);
        due("README: pieceEnd(0)", line.pieceEnd(0), 14);
        due("README: fewest(0, 16)", line.fewest(0, 16), 2);
        due("README: pointX(16)", line.pointX(16), 16);
        due("README: pointY(16)", line.pointY(16), 8);
        due("README: push(8)", line.push(8), -1);
        due("README: moves()", line.moves(), 16);
    }
}
