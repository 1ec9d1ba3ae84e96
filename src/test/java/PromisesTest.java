import java.lang.reflect.Constructor;
import java.lang.reflect.Field;
import java.lang.reflect.Method;
import java.lang.reflect.Modifier;
import java.util.Arrays;
import java.util.TreeSet;

/** Each promise of the document by itself, with answers worked out by hand. */
public final class PromisesTest {
    private static final int BAD_ARG = -1;
    private static final int FULL = -2;
    private static final int NONE = -3;
    private static final int[] OUT_OF_RANGE = {-1, -2, 10, 31, 32, 33, 64, Integer.MIN_VALUE, Integer.MAX_VALUE};

    private static int wrong = 0;
    private static String promise = "";

    private static void due(String call, long got, long want) {
        if (got != want) {
            wrong++;
            System.out.println(promise + ": " + call + " answered " + got + ", due is " + want);
        }
    }

    private static void due(String call, boolean got, boolean want) {
        due(call, got ? 1 : 0, want ? 1 : 0);
    }

    private static void dueText(String what, String got, String want) {
        if (!got.equals(want)) {
            wrong++;
            System.out.println(promise + ": " + what + " is " + got + ", due is " + want);
        }
    }

    /** Positions with these owners, and moves given as pairs of digits, as in "01 12". */
    private static EndlessPlays game(String owners, String moves) {
        EndlessPlays x = new EndlessPlays();
        for (char owner : owners.toCharArray()) {
            x.position(owner - '0');
        }
        for (String move : moves.isEmpty() ? new String[0] : moves.split(" ")) {
            x.move(move.charAt(0) - '0', move.charAt(1) - '0');
        }
        return x;
    }

    /** Puts positions into sets, as in "A0 B1". */
    private static EndlessPlays with(EndlessPlays x, String puts) {
        for (String put : puts.split(" ")) {
            x.put(put.charAt(0) - 'A', put.charAt(1) - '0');
        }
        return x;
    }

    /** All that can be asked, to see that nothing changed. */
    private static String all(EndlessPlays x) {
        StringBuilder text = new StringBuilder();
        text.append(x.positions()).append(' ').append(x.score());
        for (int goal = 0; goal < 9; goal++) {
            text.append(' ').append(x.winning(goal));
        }
        for (int v = 0; v < x.positions(); v++) {
            text.append(' ').append(x.goals(v)).append('/').append(x.moves(v));
            for (int goal = 0; goal < 9; goal++) {
                text.append(',').append(x.goodMoves(goal, v));
            }
        }
        return text.toString();
    }

    private static void face() {
        promise = "the public face";
        TreeSet<String> seen = new TreeSet<>();
        for (Method method : EndlessPlays.class.getDeclaredMethods()) {
            if (!Modifier.isPrivate(method.getModifiers())) {
                seen.add(Modifier.toString(method.getModifiers()) + " " + method.getReturnType() + " "
                    + method.getName() + Arrays.toString(method.getParameterTypes()));
            }
        }
        dueText("the methods", seen.toString(), "[public boolean wins[int, int], public int drop[], "
            + "public int goals[int], public int goodMoves[int, int], public int move[int, int], "
            + "public int moves[int], public int position[int], public int positions[], "
            + "public int put[int, int], public int score[], public int turn[int], public int winning[int]]");
        seen.clear();
        for (Field field : EndlessPlays.class.getDeclaredFields()) {
            if (!Modifier.isPrivate(field.getModifiers())) {
                seen.add(field.toString());
            }
        }
        dueText("the constants", seen.toString(), "[public static final int EndlessPlays.BAD_ARG, "
            + "public static final int EndlessPlays.FULL, public static final int EndlessPlays.NONE]");
        Constructor<?>[] makers = EndlessPlays.class.getDeclaredConstructors();
        dueText("the constructors", Arrays.toString(makers), "[public EndlessPlays()]");
        dueText("the class", Modifier.toString(EndlessPlays.class.getModifiers()), "public final");
        due("BAD_ARG", EndlessPlays.BAD_ARG, BAD_ARG);
        due("FULL", EndlessPlays.FULL, FULL);
        due("NONE", EndlessPlays.NONE, NONE);
    }

    private static void newObject() {
        promise = "promise 1";
        EndlessPlays x = new EndlessPlays();
        due("positions()", x.positions(), 0);
        due("score()", x.score(), 0);
        for (int goal = 0; goal < 9; goal++) {
            due("winning(" + goal + ")", x.winning(goal), 0);
        }
        // The sets are empty: a position that is added later is in none of them.
        x.position(0);
        for (int s = 0; s < 4; s++) {
            due("put(" + s + ", 0)", x.put(s, 0), 1);
        }
        due("another object", new EndlessPlays().positions(), 0);
    }

    private static void position() {
        promise = "promise 2";
        EndlessPlays x = new EndlessPlays();
        for (int player : new int[] {-1, 2, 3, Integer.MIN_VALUE, Integer.MAX_VALUE}) {
            due("position(" + player + ")", x.position(player), BAD_ARG);
        }
        due("positions()", x.positions(), 0);
        for (int v = 0; v < 10; v++) {
            due("position(" + v % 2 + ")", x.position(v % 2), v);
        }
        // Without a move each position is lost by the player to whom it belongs.
        due("winning(0)", x.winning(0), 0b1010101010);
        due("position(0)", x.position(0), FULL);
        due("position(1)", x.position(1), FULL);
        due("position(2)", x.position(2), BAD_ARG);
        due("position(-1)", x.position(-1), BAD_ARG);
        due("positions()", x.positions(), 10);
        due("winning(0)", x.winning(0), 0b1010101010);
    }

    private static void drop() {
        promise = "promise 3";
        EndlessPlays x = new EndlessPlays();
        due("drop()", x.drop(), NONE);
        due("positions()", x.positions(), 0);
        x = with(game("01", "00 01 10 11"), "A0 A1 B1 C1 D1");
        due("drop()", x.drop(), 1);
        due("winning(3)", x.winning(3), 1);
        due("goodMoves(3, 0)", x.goodMoves(3, 0), 1);
        // The same number again: without its old moves, owner and sets, and no move leads to it.
        due("position(0)", x.position(0), 1);
        due("goals(1)", x.goals(1), 0);
        due("moves(1)", x.moves(1), NONE);
        due("move(0, 1)", x.move(0, 1), 1);
        due("move(1, 0)", x.move(1, 0), 1);
        due("move(1, 1)", x.move(1, 1), 1);
        for (int s = 0; s < 4; s++) {
            due("put(" + s + ", 1)", x.put(s, 1), 1);
        }
        due("put(0, 0)", x.put(0, 0), 0);
        due("drop()", x.drop(), 1);
        due("drop()", x.drop(), 0);
        due("drop()", x.drop(), NONE);
        // Each position loses its move to it: then player 1 has no move at 1, and so loses.
        x = game("010", "02 12 22 01");
        due("winning(3)", x.winning(3), 0);
        due("drop()", x.drop(), 2);
        due("winning(3)", x.winning(3), 3);
        due("goodMoves(3, 0)", x.goodMoves(3, 0), 2);
        x = game("0000000000", "09 99");
        due("drop()", x.drop(), 9);
        due("position(1)", x.position(1), 9);
        due("move(0, 9)", x.move(0, 9), 1);
        due("winning(1)", x.winning(1), 0b1000000001);
    }

    private static void move() {
        promise = "promise 4";
        EndlessPlays x = game("01", "");
        due("move(0, 1)", x.move(0, 1), 1);
        due("winning(0)", x.winning(0), 3);
        due("move(0, 1)", x.move(0, 1), 0);
        due("winning(0)", x.winning(0), 2);
        due("move(1, 1)", x.move(1, 1), 1);
        due("winning(0)", x.winning(0), 0);
        due("move(1, 0)", x.move(1, 0), 1);
        due("move(1, 1)", x.move(1, 1), 0);
        due("goodMoves(0, 1)", x.goodMoves(0, 1), 1);
        String before = all(x);
        due("move(2, 0)", x.move(2, 0), BAD_ARG);
        due("move(0, 2)", x.move(0, 2), BAD_ARG);
        for (int v : OUT_OF_RANGE) {
            due("move(" + v + ", 0)", x.move(v, 0), BAD_ARG);
            due("move(0, " + v + ")", x.move(0, v), BAD_ARG);
            due("move(" + v + ", " + v + ")", x.move(v, v), BAD_ARG);
        }
        dueText("the game", all(x), before);
        due("without a position, move(0, 0)", new EndlessPlays().move(0, 0), BAD_ARG);
    }

    private static void turn() {
        promise = "promise 5";
        EndlessPlays x = game("01", "");
        due("turn(0)", x.turn(0), 1);
        due("winning(0)", x.winning(0), 3);
        due("turn(1)", x.turn(1), 0);
        due("winning(0)", x.winning(0), 1);
        due("turn(0)", x.turn(0), 0);
        due("winning(0)", x.winning(0), 0);
        String before = all(x);
        due("turn(2)", x.turn(2), BAD_ARG);
        for (int v : OUT_OF_RANGE) {
            due("turn(" + v + ")", x.turn(v), BAD_ARG);
        }
        dueText("the game", all(x), before);
        due("without a position, turn(0)", new EndlessPlays().turn(0), BAD_ARG);
    }

    private static void put() {
        promise = "promise 6";
        EndlessPlays x = game("00", "00 11");
        for (int s = 0; s < 4; s++) {
            due("put(" + s + ", 0)", x.put(s, 0), 1);
            due("put(" + s + ", 1)", x.put(s, 1), 1);
            due("put(" + s + ", 0)", x.put(s, 0), 0);
        }
        due("winning(2)", x.winning(2), 2);
        due("winning(4)", x.winning(4), 2);
        String before = all(x);
        due("put(0, 2)", x.put(0, 2), BAD_ARG);
        for (int v : OUT_OF_RANGE) {
            due("put(0, " + v + ")", x.put(0, v), BAD_ARG);
        }
        for (int s : new int[] {-1, 4, 5, 32, Integer.MIN_VALUE, Integer.MAX_VALUE}) {
            due("put(" + s + ", 0)", x.put(s, 0), BAD_ARG);
            due("put(" + s + ", 2)", x.put(s, 2), BAD_ARG);
        }
        dueText("the game", all(x), before);
        due("without a position, put(0, 0)", new EndlessPlays().put(0, 0), BAD_ARG);
    }

    private static void positions() {
        promise = "promise 7";
        EndlessPlays x = new EndlessPlays();
        for (int v = 0; v < 10; v++) {
            due("positions()", x.positions(), v);
            x.position(0);
        }
        x.position(0);
        due("positions()", x.positions(), 10);
        x.drop();
        due("positions()", x.positions(), 9);
    }

    /** Goals on plays that go round and round, where nobody has a choice. */
    private static void winningRound() {
        // 0 1 2 2 2 ...
        EndlessPlays x = with(game("010", "01 12 22"), "A0 B1 C2");
        due("winning(0)", x.winning(0), 1);
        due("winning(1)", x.winning(1), 0);
        due("winning(2)", x.winning(2), 0);
        due("winning(3)", x.winning(3), 0);
        due("winning(4)", x.winning(4), 0);
        due("winning(5)", x.winning(5), 7);
        due("winning(6)", x.winning(6), 0);
        due("winning(7)", x.winning(7), 0);
        due("winning(8)", x.winning(8), 3);
        with(x, "A2 D2");
        due("winning(0)", x.winning(0), 7);
        due("winning(1)", x.winning(1), 4);
        due("winning(2)", x.winning(2), 7);
        due("winning(3)", x.winning(3), 7);
        due("winning(6)", x.winning(6), 0);
        due("winning(7)", x.winning(7), 0);
        with(x, "C2");
        due("winning(6)", x.winning(6), 7);
        with(x, "B2 D2");
        due("winning(4)", x.winning(4), 7);
        due("winning(5)", x.winning(5), 0);
        due("winning(7)", x.winning(7), 7);
        due("winning(8)", x.winning(8), 7);
    }

    /** Every family of sets on one loop of one position, against the words of the goals. */
    private static void winningLoop() {
        for (int sets = 0; sets < 16; sets++) {
            EndlessPlays x = game("0", "00");
            for (int s = 0; s < 4; s++) {
                if ((sets >> s & 1) == 1) {
                    x.put(s, 0);
                }
            }
            boolean a = (sets & 1) != 0;
            boolean b = (sets & 2) != 0;
            boolean c = (sets & 4) != 0;
            boolean d = (sets & 8) != 0;
            boolean[] met = {a, a, a, a, a && b, !(a && b) || c && d, b && !a || d && !c,
                (!a || b) && (!c || d), b};
            for (int goal = 0; goal < 9; goal++) {
                due("winning(" + goal + ") with sets " + sets, x.winning(goal), met[goal] ? 1 : 0);
            }
        }
    }

    /** Goals for which a player has to choose, and to choose otherwise at the same position later. */
    private static void winningChoice() {
        // Player 0 goes from 0 to 1 or 2, and both lead back: by turns it has both.
        EndlessPlays x = with(game("011", "01 02 10 20"), "A1 B2");
        due("winning(4)", x.winning(4), 7);
        due("winning(3)", x.winning(3), 0);
        due("winning(6)", x.winning(6), 7);
        due("winning(7)", x.winning(7), 7);
        x.turn(0);
        due("winning(2)", x.winning(2), 0);
        due("winning(0)", x.winning(0), 2);
        due("winning(4)", x.winning(4), 0);
        due("winning(5)", x.winning(5), 0);
        due("winning(6)", x.winning(6), 0);
        due("winning(7)", x.winning(7), 0);
        with(x, "C0 D0");
        due("winning(5)", x.winning(5), 7);
        with(x, "D0");
        due("winning(5)", x.winning(5), 0);
        // Two pairs: player 1 calls with A or C, player 0 has to answer just the one that was called.
        x = with(game("1000", "01 02 13 23 30"), "A1 C2 B3 D3");
        due("winning(7)", x.winning(7), 15);
        x = with(game("100011", "01 02 13 23 34 35 40 50"), "A1 C2 B4 D5");
        due("winning(7)", x.winning(7), 63);
        with(x, "A5 C4");
        due("winning(7)", x.winning(7), 63);
        x.move(3, 5);
        due("winning(7)", x.winning(7), 0);
        due("winning(6)", x.winning(6), 0);
        x.move(3, 5);
        due("winning(6)", x.winning(6), 0);
        with(x, "A1 A5");
        due("winning(6)", x.winning(6), 63);
    }

    /** A player who has no move loses, whatever the goal is and whatever came before. */
    private static void winningDeadEnds() {
        EndlessPlays x = with(game("010", "01 02"), "A0 A2 B0 B2");
        for (int goal = 0; goal < 9; goal++) {
            due("winning(" + goal + ")", x.winning(goal), 3);
        }
        x.turn(0);
        for (int goal = 0; goal < 9; goal++) {
            due("winning(" + goal + ")", x.winning(goal), 2);
        }
        // From A on player 0 can go on without end, or not.
        x = with(game("000", "01 12"), "A1 B1");
        due("winning(0)", x.winning(0), 0);
        due("winning(8)", x.winning(8), 0);
        x.move(2, 2);
        due("winning(0)", x.winning(0), 3);
        due("winning(8)", x.winning(8), 2);
        with(x, "A0");
        due("winning(8)", x.winning(8), 3);
        with(x, "A0 A1");
        due("winning(8)", x.winning(8), 2);
    }

    private static void winning() {
        promise = "promise 8";
        winningRound();
        winningLoop();
        winningChoice();
        winningDeadEnds();
        EndlessPlays x = game("01", "01");
        for (int goal : new int[] {-1, 9, 10, 32, Integer.MIN_VALUE, Integer.MAX_VALUE}) {
            due("winning(" + goal + ")", x.winning(goal), BAD_ARG);
            due("winning(" + goal + ")", new EndlessPlays().winning(goal), BAD_ARG);
        }
        // Ten positions in a round: all bits are there.
        x = with(game("0101010101", "01 12 23 34 45 56 67 78 89 90"), "A9 B4 C0 D5");
        for (int goal = 0; goal < 8; goal++) {
            due("winning(" + goal + ")", x.winning(goal), goal == 1 || goal == 3 || goal == 6 ? 0 : 1023);
        }
        due("winning(8)", x.winning(8), 16);
    }

    private static void wins() {
        promise = "promise 9";
        EndlessPlays x = with(game("01", "00 01 10"), "A1");
        due("wins(0, 0)", x.wins(0, 0), true);
        due("wins(1, 1)", x.wins(1, 1), false);
        due("wins(2, 1)", x.wins(2, 1), true);
        due("wins(8, 1)", x.wins(8, 1), false);
        for (int v : OUT_OF_RANGE) {
            due("wins(0, " + v + ")", x.wins(0, v), false);
        }
        due("wins(0, 2)", x.wins(0, 2), false);
        for (int goal : new int[] {-1, 9, 32, Integer.MIN_VALUE, Integer.MAX_VALUE}) {
            due("wins(" + goal + ", 0)", x.wins(goal, 0), false);
        }
        due("without a position, wins(0, 0)", new EndlessPlays().wins(0, 0), false);
    }

    private static void goodMoves() {
        promise = "promise 10";
        EndlessPlays x = with(game("01010", "01 02 03 10 13 14 22 33"), "A2");
        // 2 stays in A, 3 stays outside, 4 has no move: player 0 wins with goal 2 from 2 and 0.
        due("winning(2)", x.winning(2), 5);
        due("goodMoves(2, 0)", x.goodMoves(2, 0), 4);
        due("goodMoves(2, 1)", x.goodMoves(2, 1), 24);
        due("goodMoves(2, 2)", x.goodMoves(2, 2), 4);
        due("goodMoves(2, 3)", x.goodMoves(2, 3), 8);
        due("goodMoves(2, 4)", x.goodMoves(2, 4), 0);
        // The play begins at the move's end: what came before does not count.
        x = with(game("00", "01 11"), "A1");
        due("winning(1)", x.winning(1), 2);
        due("goodMoves(1, 0)", x.goodMoves(1, 0), 2);
        with(x, "A0 A1");
        due("winning(0)", x.winning(0), 1);
        due("goodMoves(0, 0)", x.goodMoves(0, 0), 0);
        for (int v : OUT_OF_RANGE) {
            due("goodMoves(0, " + v + ")", x.goodMoves(0, v), BAD_ARG);
            due("goodMoves(9, " + v + ")", x.goodMoves(9, v), BAD_ARG);
        }
        for (int goal : new int[] {-1, 9, 32, Integer.MIN_VALUE, Integer.MAX_VALUE}) {
            due("goodMoves(" + goal + ", 0)", x.goodMoves(goal, 0), BAD_ARG);
        }
        due("without a position, goodMoves(0, 0)", new EndlessPlays().goodMoves(0, 0), BAD_ARG);
    }

    private static void moves() {
        promise = "promises 11 and 14";
        // A row of ten to A at the end: the longest way there is.
        EndlessPlays x = with(game("0101010101", "01 12 23 34 45 56 67 78 89 99"), "A9");
        for (int v = 0; v < 10; v++) {
            due("moves(" + v + ")", x.moves(v), 9 - v);
        }
        // Player 0 takes the shorter way, player 1 the longer one.
        x.move(2, 8);
        due("moves(2)", x.moves(2), 2);
        due("moves(0)", x.moves(0), 4);
        x.turn(2);
        due("moves(2)", x.moves(2), 7);
        x.move(3, 2);
        due("moves(3)", x.moves(3), NONE);
        due("moves(0)", x.moves(0), NONE);
        due("moves(4)", x.moves(4), 5);
        for (int v : OUT_OF_RANGE) {
            due("moves(" + v + ")", x.moves(v), BAD_ARG);
        }
        due("without a position, moves(0)", new EndlessPlays().moves(0), BAD_ARG);
        // Where player 1 has no move is like A; where player 0 has none is not.
        x = game("0100", "01 23");
        due("moves(1)", x.moves(1), 0);
        due("moves(0)", x.moves(0), 1);
        due("moves(3)", x.moves(3), NONE);
        due("moves(2)", x.moves(2), NONE);
        due("moves(4)", x.moves(4), BAD_ARG);
        // The play has come to A, even if player 0 has no move from there.
        with(x, "A3");
        due("moves(3)", x.moves(3), 0);
        due("moves(2)", x.moves(2), 1);
        due("wins(0, 2)", x.wins(0, 2), false);
    }

    private static void goals() {
        promise = "promise 12";
        EndlessPlays x = with(game("01", "01 10"), "A0");
        due("goals(0)", x.goals(0), 1 + 4 + 32);
        due("goals(1)", x.goals(1), 1 + 4 + 32);
        with(x, "A1 B1");
        due("goals(0)", x.goals(0), 1 + 2 + 4 + 8 + 16 + 128 + 256);
        due("goals(2)", x.goals(2), BAD_ARG);
        for (int v : OUT_OF_RANGE) {
            due("goals(" + v + ")", x.goals(v), BAD_ARG);
        }
        due("without a position, goals(0)", new EndlessPlays().goals(0), BAD_ARG);
        due("player 1 without a move, goals(0)", game("1", "").goals(0), 511);
        due("player 0 without a move, goals(0)", game("0", "").goals(0), 0);
    }

    private static void score() {
        promise = "promise 13";
        EndlessPlays x = with(game("01", "01 10"), "A0");
        due("score()", x.score(), 6);
        x.position(1);
        due("score()", x.score(), 15);
        due("ten of player 1, score()", game("1111111111", "").score(), 90);
        due("ten of player 0, score()", game("0000000000", "").score(), 0);
    }

    private static void order() {
        promise = "promise 14";
        EndlessPlays x = game("1111111111", "");
        due("position(2) when full", x.position(2), BAD_ARG);
        due("turn(9)", x.turn(9), 0);
        due("turn(9)", x.turn(9), 1);
        due("goodMoves(9, 10)", x.goodMoves(9, 10), BAD_ARG);
    }

    /** Questions change nothing, and so do refused calls. */
    private static void nothingChanges() {
        promise = "questions";
        EndlessPlays x = with(game("01010", "01 12 20 13 34 43"), "A0 B3 C1 D4");
        String first = all(x);
        dueText("the second time", all(x), first);
        for (int v : OUT_OF_RANGE) {
            x.winning(v);
            x.wins(v, v);
            x.goodMoves(v, v);
            x.moves(v);
            x.goals(v);
        }
        dueText("after wrong questions", all(x), first);
    }

    public static void main(String[] args) {
        face();
        newObject();
        position();
        drop();
        move();
        turn();
        put();
        positions();
        winning();
        wins();
        goodMoves();
        moves();
        goals();
        score();
        order();
        nothingChanges();
        System.out.println(wrong == 0 ? "all promises hold" : wrong + " answers are not as due");
        if (wrong != 0) {
            System.exit(1);
        }
    }
}
