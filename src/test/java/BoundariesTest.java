import java.util.ArrayList;
import java.util.List;

/**
 * Each boundary case that the document names, by a test of its own: the sentence, and runs of calls on
 * new objects with the answers that are due, worked out by hand.
 *
 * A run is written as calls parted by semicolons, "move 0 1 = 1; winning 8 = {0,2}". {0,2-4} is the sum of
 * 2 to the power of each; a call without an answer sets the game up, and must not be refused.
 */
public final class BoundariesTest {
    private static final int MOST_CALLS = 512;
    private static final String NOTHING = "";
    private static final String IN_ALL_SETS = "A0 A1 B0 B1 C0 C1 D0 D1";
    private static final String ROW = "01 12 23 34 45 56 67 78 89";
    private static final String SOME = game("01010", "00 01 12 20 13 34 43 31", "A0 A2 B3 C1 D4 D0");
    private static final String TEN = game("0101010101", ROW + " 90 05 55 16 61 73 94", "A0 A9 B4 C7 D9 D2 B9");
    private static final String ALL_WON = game("1111111111", "", "");

    // Far outside: the ends of int, and numbers that a shift or a narrow cast would take for small ones.
    private static final int[] FAR_TOO_SMALL = {-2, -10, -22, -23, -31, -32, -64, -247, -256, -65527, -65536,
        -1000000, Integer.MIN_VALUE + 1, Integer.MIN_VALUE};
    private static final int[] FAR_TOO_LARGE = {11, 16, 31, 32, 33, 40, 41, 64, 73, 256, 265, 65536, 65545,
        1000000, Integer.MAX_VALUE - 1, Integer.MAX_VALUE};

    private static int cases = 0;
    private static int wrong = 0;

    // ---- how a run is read ----

    /** Positions with these owners, moves as in "01 12" and sets as in "A0 B1", written as calls. */
    private static String game(String owners, String moves, String sets) {
        StringBuilder calls = new StringBuilder();
        for (char owner : owners.toCharArray()) {
            calls.append("position ").append(owner).append("; ");
        }
        for (String move : words(moves)) {
            calls.append("move ").append(move.charAt(0)).append(' ').append(move.charAt(1)).append("; ");
        }
        return calls + putting(sets);
    }

    private static String putting(String sets) {
        StringBuilder calls = new StringBuilder();
        for (String put : words(sets)) {
            calls.append("put ").append(put.charAt(0) - 'A').append(' ').append(put.charAt(1)).append("; ");
        }
        return calls.toString();
    }

    private static String[] words(String text) {
        return text.isEmpty() ? new String[0] : text.split(" ");
    }

    /** The row once for each number from first to last, put in the place of #. */
    private static String each(int first, int last, String row) {
        StringBuilder rows = new StringBuilder();
        for (int n = first; n <= last; n++) {
            rows.append(row.replace("#", "" + n)).append("; ");
        }
        return rows.toString();
    }

    private static String eachOf(int[] numbers, String row) {
        StringBuilder rows = new StringBuilder();
        for (int n : numbers) {
            rows.append(row.replace("#", "" + n)).append("; ");
        }
        return rows.toString();
    }

    private static String eachGoal(String row) {
        return each(0, 8, row);
    }

    private static String[] calls(String run) {
        List<String> found = new ArrayList<>();
        for (String call : run.split(";")) {
            if (!call.isBlank()) {
                found.add(call.trim());
            }
        }
        return found.toArray(new String[0]);
    }

    private static long number(String word) {
        switch (word) {
            case "BAD_ARG":
                return -1;
            case "FULL":
                return -2;
            case "NONE":
                return -3;
            case "true":
                return 1;
            case "false":
                return 0;
            default:
                return word.startsWith("{") ? bits(word.substring(1, word.length() - 1)) : Long.parseLong(word);
        }
    }

    private static long bits(String members) {
        long sum = 0;
        for (String part : members.isEmpty() ? new String[0] : members.split(",")) {
            String[] ends = part.split("-");
            for (int v = Integer.parseInt(ends[0]); v <= Integer.parseInt(ends[ends.length - 1]); v++) {
                sum += 1L << v;
            }
        }
        return sum;
    }

    private static long answer(EndlessPlays x, String call) {
        String[] words = call.split(" ");
        int a = words.length > 1 ? (int) number(words[1]) : 0;
        int b = words.length > 2 ? (int) number(words[2]) : 0;
        switch (words[0] + "/" + (words.length - 1)) {
            case "position/1":
                return x.position(a);
            case "drop/0":
                return x.drop();
            case "move/2":
                return x.move(a, b);
            case "turn/1":
                return x.turn(a);
            case "put/2":
                return x.put(a, b);
            case "positions/0":
                return x.positions();
            case "winning/1":
                return x.winning(a);
            case "wins/2":
                return x.wins(a, b) ? 1 : 0;
            case "goodMoves/2":
                return x.goodMoves(a, b);
            case "moves/1":
                return x.moves(a);
            case "goals/1":
                return x.goals(a);
            case "score/0":
                return x.score();
            default:
                throw new IllegalArgumentException("no such call: " + call);
        }
    }

    // ---- how a boundary case is tested ----

    private static void fault(String sentence, String text) {
        wrong++;
        System.out.println("\"" + sentence + "\": " + text);
    }

    /** Tests a sentence by runs, each on a new object. */
    private static void boundary(String sentence, String... runs) {
        cases++;
        for (String run : runs) {
            play(sentence, run);
        }
    }

    /** Plays a run up to its first wrong answer, and answers the object. */
    private static EndlessPlays play(String sentence, String run) {
        EndlessPlays x = new EndlessPlays();
        String[] calls = calls(run);
        if (calls.length > MOST_CALLS) {
            fault(sentence, "a run of more calls than the document allows");
        }
        StringBuilder told = new StringBuilder();
        for (String call : calls) {
            String[] sides = call.split(" = ");
            String got = told(x, sides[0]);
            told.append(sides[0]).append(" -> ").append(got).append("; ");
            boolean due = sides.length > 1 ? got.equals("" + number(sides[1])) : got.matches("[0-9]+");
            if (!due) {
                fault(sentence, told + "due is " + (sides.length > 1 ? sides[1] : "no refusal"));
                return x;
            }
        }
        return x;
    }

    private static String told(EndlessPlays x, String call) {
        try {
            return "" + answer(x, call);
        } catch (RuntimeException | Error thrown) {
            return "" + thrown;
        }
    }

    /** All that the object holds, told by calls that turn each part of it into its opposite. */
    private static String held(EndlessPlays x) {
        int count = x.positions();
        StringBuilder text = new StringBuilder("positions " + count + ", owners");
        for (int v = 0; v < count; v++) {
            text.append(' ').append(1 - x.turn(v));
        }
        text.append(", moves");
        for (int v = 0; v < count; v++) {
            for (int w = 0; w < count; w++) {
                text.append(x.move(v, w) == 0 ? " " + v + w : "");
            }
        }
        text.append(", sets");
        for (int s = 0; s < 4; s++) {
            for (int v = 0; v < count; v++) {
                text.append(x.put(s, v) == 0 ? " " + (char) ('A' + s) + v : "");
            }
        }
        return text.toString();
    }

    /** Each of the calls has its answer after the set-up, and leaves the object as it was. */
    private static void changesNothing(String sentence, String setUp, String calls) {
        cases++;
        String before = held(play(sentence, setUp));
        for (String call : calls(calls)) {
            String after = held(play(sentence, setUp + call));
            if (!after.equals(before)) {
                fault(sentence, call + " after " + setUp + "left " + after + ", due is " + before);
            }
        }
    }

    // ---- the terms ----

    private static void atMostTenPositions() {
        boundary("There are at most 10 POSITIONS, numbered from 0 on",
            "positions = 0; " + each(0, 9, "position 0 = #; ") + "positions = 10; position 0 = FULL; positions = 10",
            "positions = 0; " + each(0, 9, "position 1 = #; ") + "positions = 10; position 1 = FULL; positions = 10");
        boundary("each of which belongs to player 0 or 1",
            "position 0 = 0; turn 0 = 1", "position 1 = 0; turn 0 = 0");
        boundary("four SETS of positions, A, B, C, D (0 to 3)",
            game("0", "00", "") + "goals 0 = {5,7}",
            game("0", "00", "") + "put 0 0 = 1; goals 0 = {0-3,5}",
            game("0", "00", "") + "put 1 0 = 1; goals 0 = {5-8}",
            game("0", "00", "") + "put 2 0 = 1; goals 0 = {5}",
            game("0", "00", "") + "put 3 0 = 1; goals 0 = {5-7}");
        boundary("a move that the player chooses to whom the position belongs",
            game("011", "01 02 11 22", "A1") + "winning 0 = {0,1}; turn 0 = 1; winning 0 = {1}");
        boundary("(knowing the play so far)",
            game("011", "01 02 10 20", "A1 B2") + "winning 4 = {0-2}; turn 0 = 1; winning 4 = {}",
            game("100011", "01 02 13 23 34 35 40 50", "A1 C2 B4 D5") + "winning 7 = {0-5}");
    }

    private static void moveToItself() {
        boundary("MOVES to positions (also to itself): there and not there, at each of ten positions",
            ALL_WON + each(0, 9, "move # # = 1") + each(0, 9, "move # # = 0") + each(0, 9, "move # # = 1"));
        boundary("(also to itself): the play goes on without end",
            game("0", "00", "") + "goals 0 = {5,7}; moves 0 = NONE; score = 2",
            game("1", "00", "") + "goals 0 = {5,7}; moves 0 = NONE; score = 2",
            game("0", "00", "A0 B0") + "goals 0 = {0-4,7,8}; moves 0 = 0",
            game("1", "00", "A0 B0") + "goals 0 = {0-4,7,8}; moves 0 = 0",
            game("0", "00", "A0 B0 C0 D0") + "goals 0 = {0-5,7,8}",
            game("1", "00", "A0 B0 C0 D0") + "goals 0 = {0-5,7,8}");
        boundary("(also to itself): player 0 can stay",
            game("00", "00 01", "A0") + "goals 0 = {0-3,5}; goals 1 = {}; goodMoves 1 0 = {0}; goodMoves 6 0 = {}");
        boundary("(also to itself): player 1 can stay",
            game("11", "00 01", "A1") + "goals 0 = {5,7}; goals 1 = {0-8}; moves 0 = NONE; "
                + "goodMoves 0 0 = {0}; goodMoves 5 0 = {}");
        boundary("(also to itself): player 0 need not stay",
            game("00", "00 01 11", "A1") + "winning 0 = {0,1}; winning 3 = {0,1}; moves 0 = 1");
        boundary("(also to itself): player 1 need not stay",
            game("11", "00 01 11", "A0") + "winning 0 = {0}; winning 1 = {}; goodMoves 1 0 = {0,1}; "
                + "goodMoves 0 0 = {1}");
        boundary("(also to itself): the move goes with the position",
            "position 0; move 0 0 = 1; drop = 0; position 0 = 0; goals 0 = {}; move 0 0 = 1; goals 0 = {5,7}");
    }

    private static void playerZeroWithoutMove() {
        boundary("a player who has no move loses: player 0, where the play begins",
            game("0", "", "") + eachGoal("winning # = {}") + "goals 0 = {}; score = 0; moves 0 = NONE",
            game("0", "", "A0 B0 C0 D0") + eachGoal("winning # = {}") + "goals 0 = {}; score = 0; moves 0 = 0");
        boundary("a player who has no move loses: player 0, after its own move",
            game("00", "01", IN_ALL_SETS) + eachGoal("winning # = {}") + eachGoal("goodMoves # 0 = {}"),
            game("00", "01", "") + eachGoal("winning # = {}") + "moves 0 = NONE");
        boundary("a player who has no move loses: player 0, after a move of player 1",
            game("10", "01", IN_ALL_SETS) + eachGoal("winning # = {}") + eachGoal("goodMoves # 0 = {1}"),
            game("10", "01", "") + eachGoal("winning # = {}") + "moves 0 = NONE");
        boundary("a player who has no move loses: player 0, also where the goal was met before",
            game("00", "01", "A0") + "winning 0 = {}; winning 1 = {}; moves 0 = 0",
            game("00", "01", "A0 B0") + "winning 8 = {}",
            game("10", "01", "A0 B0") + "winning 0 = {}; winning 8 = {}",
            game("00", "01", "A0 B0") + "move 1 1; winning 0 = {0}; winning 8 = {0}");
        boundary("a player who has no move loses: player 0, once its last move is taken away",
            game("0", "00", "") + "goals 0 = {5,7}; move 0 0 = 0; goals 0 = {}",
            game("01", "01", "") + "goals 0 = {0-8}; drop = 1; goals 0 = {}");
    }

    private static void playerOneWithoutMove() {
        boundary("a player who has no move loses: player 1, where the play begins",
            game("1", "", "") + eachGoal("winning # = {0}") + "goals 0 = {0-8}; score = 9; moves 0 = 0",
            game("1", "", "A0 B0 C0 D0") + eachGoal("winning # = {0}") + "goals 0 = {0-8}; score = 9; moves 0 = 0");
        boundary("a player who has no move loses: player 1, after its own move",
            game("11", "01", "") + eachGoal("winning # = {0,1}") + eachGoal("goodMoves # 0 = {}") + "moves 0 = 1",
            game("11", "01", "A1 C0 C1") + eachGoal("winning # = {0,1}"));
        boundary("a player who has no move loses: player 1, after a move of player 0",
            game("01", "01", "") + eachGoal("winning # = {0,1}") + eachGoal("goodMoves # 0 = {1}") + "moves 0 = 1",
            game("01", "01", "A1 C0 C1") + eachGoal("winning # = {0,1}"));
        boundary("a player who has no move loses: player 1, once its last move is taken away",
            game("1", "00", "") + "goals 0 = {5,7}; move 0 0 = 0; goals 0 = {0-8}",
            game("10", "01", "") + "goals 0 = {}; drop = 1; goals 0 = {0-8}");
    }

    private static void eitherWithoutMove() {
        boundary("a player who has no move loses: the choice of player 0 between the two kinds",
            game("001", "01 02", IN_ALL_SETS) + eachGoal("winning # = {0,2}") + eachGoal("goodMoves # 0 = {2}"));
        boundary("a player who has no move loses: the choice of player 1 between the two kinds",
            game("101", "01 02", "") + eachGoal("winning # = {2}") + eachGoal("goodMoves # 0 = {1}"));
        boundary("a player who has no move loses: at the end of the longest row",
            game("0101010101", ROW, "") + eachGoal("winning # = {0-9}") + "turn 9 = 0; "
                + eachGoal("winning # = {}") + "turn 9 = 1; " + eachGoal("winning # = {0-9}"));
        boundary("a player who has no move loses: a position that turns",
            "position 0; goals 0 = {}; turn 0 = 1; goals 0 = {0-8}; turn 0 = 0; goals 0 = {}");
    }

    /** In these plays 0 comes once and then 1 comes without end. */
    private static void onceAndForever(String goal, String sentence, String met, String notMet) {
        cases++;
        for (String sets : met.split("/")) {
            play(goal + ": " + sentence, game("01", "01 11", sets.trim()) + "winning " + goal + " = {0,1}");
        }
        for (String sets : notMet.split("/")) {
            play(goal + ": " + sentence, game("01", "01 11", sets.trim()) + "winning " + goal + " = {}");
        }
    }

    private static void goalsThatComeOrStay() {
        boundary("0: it comes to a position of A: the first one, the last of ten, none",
            game("11", "01 11", "A0") + "winning 0 = {0}",
            game("0101010101", ROW + " 99", "A9") + "winning 0 = {0-9}",
            game("0101010101", ROW + " 99", "B0 B9 C5 D5") + "winning 0 = {}");
        boundary("1: all its positions are of A: all but the first one, all but the last of ten, all",
            game("00", "01 11", "A1") + "winning 1 = {1}; put 0 0 = 1; winning 1 = {0,1}",
            game("0101010101", ROW + " 99", "") + each(0, 8, "put 0 # = 1")
                + "winning 1 = {}; put 0 9 = 1; winning 1 = {0-9}");
        boundary("2: (at infinitely many places): nine times are not enough, and not all have to be",
            game("0101010101", ROW + " 99", "") + each(0, 8, "put 0 # = 1")
                + "winning 2 = {}; put 0 9 = 1; winning 2 = {0-9}",
            game("01", "01 10", "A0") + "winning 2 = {0,1}",
            game("01", "01 11", "A0") + "winning 2 = {}",
            game("0101010101", ROW + " 90", "A5") + "winning 2 = {0-9}; put 0 5 = 0; winning 2 = {}");
        boundary("3: from some place on all its positions are of A: from the tenth on, from none on",
            game("0101010101", ROW + " 99", "A9") + "winning 3 = {0-9}",
            game("0101010101", ROW + " 90", "A9") + "winning 3 = {}",
            game("01", "01 10", "A0") + "winning 3 = {}; put 0 1 = 1; winning 3 = {0,1}");
        boundary("8: it comes to a position of B, and all positions before the first such one are of A",
            game("00", "01 11", "B0") + "winning 8 = {0}",
            game("00", "01 11", "B1") + "winning 8 = {1}",
            game("00", "01 11", "A0 B1") + "winning 8 = {0,1}",
            game("00", "01 11", "A0 A1") + "winning 8 = {}",
            game("000", "01 12 22", "A0 B2") + "winning 8 = {2}; put 0 1 = 1; winning 8 = {0-2}",
            game("000", "01 12 22", "B0 B2") + "winning 8 = {0,2}",
            game("0101010101", ROW + " 99", "B9") + "winning 8 = {9}; " + each(1, 8, "put 0 # = 1")
                + "winning 8 = {1-9}; put 0 0 = 1; winning 8 = {0-9}");
    }

    private static void goalsThatComeAgain() {
        onceAndForever("4", "to A again and again, and to B again and again", "A1 B1",
            " /A1/B1/A0 B1/A1 B0/A0 B0/C1 D1");
        boundary("4: by turns, at one position or two",
            game("0", "00", "A0 B0") + "winning 4 = {0}",
            game("01", "01 10", "A0 B1") + "winning 4 = {0,1}",
            game("0101010101", ROW + " 90", "A0 B5") + "winning 4 = {0-9}",
            game("0101010101", ROW + " 90", "B0 A5") + "winning 4 = {0-9}");
        onceAndForever("5", "if it comes to A again and again and to B again and again", " /A1/B1/A0 B0/A0 B1/A1 B0",
            "A1 B1/A0 A1 B0 B1");
        onceAndForever("5", "then it comes to C again and again and to D again and again", "A1 B1 C1 D1/C1 D1",
            "A1 B1 C1/A1 B1 D1/A1 B1 C0 D1/A1 B1 C1 D0/A1 B1 C0 D0");
        boundary("5: by turns, at neighbours or far apart",
            game("01", "01 10", "A0 B1") + "winning 5 = {}; put 2 0 = 1; winning 5 = {}; put 3 1 = 1; "
                + "winning 5 = {0,1}",
            game("0101010101", ROW + " 90", "A0 B5") + "winning 5 = {}; put 2 2 = 1; winning 5 = {}; put 3 7 = 1; "
                + "winning 5 = {0-9}; put 2 2 = 0; winning 5 = {}; put 2 9 = 1; winning 5 = {0-9}",
            game("0101010101", ROW + " 90", "B0 A5") + "winning 5 = {}; put 3 2 = 1; winning 5 = {}; put 2 7 = 1; "
                + "winning 5 = {0-9}");
        onceAndForever("6", "to B again and again, but not again and again to A", "B1/A0 B1/B1 C1/B1 C1 D1",
            " /A1/B0/A1 B1/A1 B0");
        onceAndForever("6", "or to D again and again, but not again and again to C", "D1/C0 D1/A1 D1/A1 B1 D1",
            "C1/D0/C1 D1/C1 D0/A1 B1 C1 D1");
        onceAndForever("7", "if it comes to A again and again, then also to B again and again", " /A0/B1/A1 B1/A0 B1",
            "A1/A1 B0/A1 D1/A1 C1 D1");
        onceAndForever("7", "and if to C again and again, then also to D again and again", "C0/D1/C1 D1/A1 B1 C1 D1",
            "C1/C1 D0/B1 C1/A1 B1 C1");
    }

    // ---- arguments out of their range ----

    /** The call with # too small, far too small, too large and far too large, each as a test of its own. */
    private static void outOfRange(String setUp, String call, int greatest, String code) {
        String row = call + " = " + code;
        changesNothing(row + ", # too small", setUp, each(-1, -1, row));
        changesNothing(row + ", # far too small", setUp, eachOf(FAR_TOO_SMALL, row));
        changesNothing(row + ", # too large", setUp, each(greatest + 1, greatest + 1, row));
        changesNothing(row + ", # far too large", setUp, each(greatest + 2, 10, row) + eachOf(FAR_TOO_LARGE, row));
    }

    private static void argumentsOutOfRange(String setUp, int count) {
        outOfRange(setUp, "position #", 1, "BAD_ARG");
        outOfRange(setUp, "move # 0", count - 1, "BAD_ARG");
        outOfRange(setUp, "move 0 #", count - 1, "BAD_ARG");
        outOfRange(setUp, "move # #", count - 1, "BAD_ARG");
        outOfRange(setUp, "turn #", count - 1, "BAD_ARG");
        outOfRange(setUp, "put # 0", 3, "BAD_ARG");
        outOfRange(setUp, "put 0 #", count - 1, "BAD_ARG");
        outOfRange(setUp, "put 3 #", count - 1, "BAD_ARG");
        outOfRange(setUp, "winning #", 8, "BAD_ARG");
        outOfRange(setUp, "wins # 0", 8, "false");
        outOfRange(setUp, "wins 0 #", count - 1, "false");
        outOfRange(setUp, "wins 8 #", count - 1, "false");
        outOfRange(setUp, "goodMoves # 0", 8, "BAD_ARG");
        outOfRange(setUp, "goodMoves 0 #", count - 1, "BAD_ARG");
        outOfRange(setUp, "goodMoves 8 #", count - 1, "BAD_ARG");
        outOfRange(setUp, "moves #", count - 1, "BAD_ARG");
        outOfRange(setUp, "goals #", count - 1, "BAD_ARG");
    }

    /** The least and the greatest number of each range is not refused. */
    private static void endsOfRanges() {
        boundary("player not 0 or 1 answers BAD_ARG: 0 and 1 do not", "position 0 = 0; position 1 = 1");
        boundary("BAD_ARG if there is no position v or w: the first and the last do not",
            ALL_WON + "move 0 0 = 1; move 0 9 = 1; move 9 0 = 1; move 9 9 = 1", "position 0; move 0 0 = 1");
        boundary("turn, BAD_ARG if there is none: the first and the last do not", ALL_WON + "turn 0 = 0; turn 9 = 0");
        boundary("BAD_ARG if there is no such position or set: the first and the last do not",
            ALL_WON + "put 0 0 = 1; put 0 9 = 1; put 3 0 = 1; put 3 9 = 1");
        boundary("BAD_ARG if goal is not 0 to 8: 0 and 8 do not", ALL_WON + "winning 0 = {0-9}; winning 8 = {0-9}");
        boundary("wins, false if there is none: the first and the last are there",
            ALL_WON + "wins 0 0 = true; wins 0 9 = true; wins 8 0 = true; wins 8 9 = true");
        boundary("goodMoves, goal not 0 to 8, or no position v, answers BAD_ARG: the first and the last do not",
            ALL_WON + "move 0 9; move 9 9; goodMoves 0 0 = {9}; goodMoves 8 0 = {9}; goodMoves 0 9 = {9}; "
                + "goodMoves 8 9 = {9}");
        boundary("moves, BAD_ARG if there is no position v: the first and the last do not",
            ALL_WON + "moves 0 = 0; moves 9 = 0");
        boundary("goals, BAD_ARG if there is none: the first and the last do not",
            ALL_WON + "goals 0 = {0-8}; goals 9 = {0-8}");
    }

    private static void takenAwayIsOutOfRange() {
        changesNothing("there is no position once it is taken away", TEN + "drop; ",
            "move 9 0 = BAD_ARG; move 0 9 = BAD_ARG; move 9 9 = BAD_ARG; turn 9 = BAD_ARG; put 0 9 = BAD_ARG; "
                + "wins 0 9 = false; goodMoves 0 9 = BAD_ARG; moves 9 = BAD_ARG; goals 9 = BAD_ARG");
        changesNothing("there is no position once all are taken away", ALL_WON + each(0, 9, "drop"),
            "drop = NONE; move 0 0 = BAD_ARG; turn 0 = BAD_ARG; put 0 0 = BAD_ARG; "
                + "wins 0 0 = false; goodMoves 0 0 = BAD_ARG; moves 0 = BAD_ARG; goals 0 = BAD_ARG; "
                + "score = 0; winning 0 = {}; winning 8 = {}; positions = 0");
    }

    // ---- the order of the tests, and refused calls ----

    private static void orderOfTests() {
        changesNothing("position, tested in this order: BAD_ARG before FULL", TEN,
            "position 2 = BAD_ARG; position -1 = BAD_ARG; position 2147483647 = BAD_ARG; "
                + "position -2147483648 = BAD_ARG");
        changesNothing("position, tested in this order: then FULL", TEN, "position 0 = FULL; position 1 = FULL");
        changesNothing("goodMoves, tested in this order: both wrong", TEN,
            "goodMoves -1 -1 = BAD_ARG; goodMoves 9 10 = BAD_ARG; goodMoves -1 10 = BAD_ARG; "
                + "goodMoves 9 -1 = BAD_ARG");
        changesNothing("goodMoves, tested before it is looked for: no position, and no move", NOTHING,
            "goodMoves 9 0 = BAD_ARG; goodMoves 0 0 = BAD_ARG; goodMoves 9 9 = BAD_ARG");
        changesNothing("wins, both wrong", ALL_WON, "wins -1 -1 = false; wins 9 10 = false; wins -1 10 = false; "
            + "wins 9 -1 = false");
        changesNothing("move, both wrong", TEN, "move -1 10 = BAD_ARG; move 10 -1 = BAD_ARG; move 10 11 = BAD_ARG");
        changesNothing("put, both wrong", TEN, "put 4 10 = BAD_ARG; put -1 -1 = BAD_ARG; put 4 -1 = BAD_ARG; "
            + "put -1 10 = BAD_ARG");
        changesNothing("winning, without a position: a wrong goal is still refused", NOTHING,
            "winning 9 = BAD_ARG; winning -1 = BAD_ARG; winning 8 = {}");
        changesNothing("moves: BAD_ARG without the position, NONE without a way", game("0", "", ""),
            "moves 1 = BAD_ARG; moves -1 = BAD_ARG; moves 0 = NONE");
    }

    private static void refusedCalls() {
        changesNothing("a refused call changes nothing: drop without a position", NOTHING, "drop = NONE");
        boundary("a refused call changes nothing: the next one is answered as if it had not been",
            "drop = NONE; drop = NONE; position 1 = 0; positions = 1; drop = 0; drop = NONE; position 0 = 0",
            "position 2 = BAD_ARG; position -1 = BAD_ARG; position 0 = 0; position 2 = BAD_ARG; position 1 = 1",
            ALL_WON + "position 0 = FULL; position 0 = FULL; positions = 10; drop = 9; position 0 = 9; "
                + "position 0 = FULL; goals 9 = {}; goals 0 = {0-8}",
            "position 0; move 0 1 = BAD_ARG; move 1 0 = BAD_ARG; position 1 = 1; move 0 1 = 1; move 1 0 = 1",
            "position 0; put 0 1 = BAD_ARG; put 4 0 = BAD_ARG; position 1 = 1; put 0 1 = 1; put 3 0 = 1; put 1 0 = 1",
            "position 0; turn 1 = BAD_ARG; position 1 = 1; turn 1 = 0");
    }

    private static void questions() {
        String asked = "positions; score; " + eachGoal("winning #") + eachGoal("wins # 0") + eachGoal("wins # 4")
            + eachGoal("goodMoves # 0") + eachGoal("goodMoves # 4") + each(0, 4, "goals #") + "moves 0 = 0";
        changesNothing("a question changes nothing", SOME, asked);
        changesNothing("a question changes nothing, with ten positions", TEN, asked);
        boundary("a question is answered alike after another one",
            game("011", "01 02 10 20", "A1 B2 C0") + "goals 0 = {0,2,4-6}; " + eachGoal("wins # 10 = false")
                + "winning 8 = {2}; winning 1 = {}; winning 4 = {0-2}; winning 0 = {0-2}; winning 8 = {2}; "
                + "goals 0 = {0,2,4-6}");
    }

    private static void noCallThrows() {
        cases++;
        int[] some = {-1, 0, 1, 3, 4, 5, 8, 9, 10};
        int[][] numbers = {some, FAR_TOO_SMALL, FAR_TOO_LARGE};
        for (String setUp : new String[] {NOTHING, SOME, TEN, ALL_WON}) {
            for (int[] list : numbers) {
                for (int a : list) {
                    callAll(setUp, a, list);
                }
            }
        }
    }

    private static void callAll(String setUp, int a, int[] numbers) {
        EndlessPlays x = play("no call ever throws", setUp);
        for (String name : new String[] {"winning", "moves", "goals", "turn", "position"}) {
            throwsNot(x, name + " " + a);
        }
        for (int b : numbers) {
            for (String name : new String[] {"wins", "goodMoves", "move", "put"}) {
                throwsNot(x, name + " " + a + " " + b);
                throwsNot(x, name + " " + b + " " + a);
            }
        }
        throwsNot(x, "drop");
        throwsNot(x, "score");
    }

    private static void throwsNot(EndlessPlays x, String call) {
        String got = told(x, call);
        if (!got.matches("-?[0-9]+")) {
            fault("No call ever throws", call + " -> " + got);
        }
    }

    private static void lastCall() {
        String pairs = each(1, 254, "move 0 0 = 1; move 0 0 = 0");
        boundary("An object is used for at most 512 calls: the 512th one",
            "position 0; " + pairs + "move 0 0 = 1; put 0 0 = 1; goals 0 = {0-3,5}",
            "position 1; " + pairs + "put 0 0 = 1; position 0 = 1; goals 0 = {0-8}",
            "position 1; " + pairs + "put 0 0 = 1; put 0 1 = BAD_ARG; position 2 = BAD_ARG");
    }

    // ---- promise by promise ----

    private static void newObject() {
        boundary("No position",
            "positions = 0", "drop = NONE", "score = 0", eachGoal("winning # = {}"), eachGoal("wins # 0 = false"),
            eachGoal("goodMoves # 0 = BAD_ARG"), "goals 0 = BAD_ARG", "moves 0 = BAD_ARG", "turn 0 = BAD_ARG",
            "move 0 0 = BAD_ARG", each(0, 3, "put # 0 = BAD_ARG"), "position 0 = 0", "position 1 = 0");
        boundary("all sets are empty",
            ALL_WON + each(0, 9, "put 0 # = 1; put 1 # = 1; put 2 # = 1; put 3 # = 1"),
            game("0000000000", ROW + " 90", "") + "winning 0 = {}; winning 2 = {}; winning 5 = {0-9}; "
                + "winning 6 = {}; winning 8 = {}");
        cases++;
        EndlessPlays first = play("A new object: what another one holds does not count", TEN);
        play("A new object: what another one holds does not count",
            "positions = 0; position 0 = 0; put 0 0 = 1; move 0 0 = 1");
        if (first.positions() != 10) {
            fault("A new object", "the one made before has lost its positions");
        }
    }

    private static void positionAndDrop() {
        boundary("Adds a position of a player, without moves",
            game("0", "", "") + "position 0 = 1; goals 1 = {}; move 0 1 = 1; move 1 0 = 1; move 1 1 = 1",
            game("1", "00", "") + "position 1 = 1; goals 1 = {0-8}; goodMoves 0 1 = {}; move 1 0 = 1; move 0 1 = 1");
        boundary("Otherwise its number: the first is 0, the tenth 9", "position 1 = 0", each(0, 9, "position 1 = #"));
        boundary("FULL, until one is taken away",
            ALL_WON + "position 1 = FULL; drop = 9; position 1 = 9; position 1 = FULL");
        boundary("Takes the position with the greatest number away",
            game("011", "", "") + "winning 0 = {1,2}; drop = 2; winning 0 = {1}; drop = 1; winning 0 = {}; "
                + "position 1 = 1; winning 0 = {1}",
            ALL_WON + "drop = 9; goals 9 = BAD_ARG; goals 8 = {0-8}; winning 0 = {0-8}");
        boundary("with all moves to it",
            game("1110", "03 13 23 33", "") + "winning 0 = {}; drop = 3; winning 0 = {0-2}; position 0 = 3; "
                + "winning 0 = {0-2}; " + each(0, 3, "move # 3 = 1"));
        boundary("and out of all sets",
            game("00", "00 11", IN_ALL_SETS) + "drop = 1; position 0 = 1; move 1 1 = 1; goals 1 = {5,7}; "
                + "goals 0 = {0-5,7,8}; " + each(0, 3, "put # 1 = 1") + each(0, 3, "put # 0 = 0"));
        boundary("NONE if there is none", "drop = NONE", "position 0; drop = 0; drop = NONE; drop = NONE",
            ALL_WON + "drop = 9; drop = 8; drop = 7; drop = 6; drop = 5; drop = 4; drop = 3; drop = 2; "
                + "drop = 1; drop = 0; drop = NONE");
        boundary("Otherwise the number of positions: 9 of ten, 0 of one", ALL_WON + "drop = 9; positions = 9",
            "position 1; drop = 0; positions = 0");
    }

    /** Every move and every set there is with so many positions. */
    private static String crowded(int count) {
        StringBuilder calls = new StringBuilder(each(1, count, "position 0"));
        for (int v = 0; v < count; v++) {
            calls.append(each(0, count - 1, "move " + v + " #"));
            calls.append(each(0, 3, "put # " + v));
        }
        return calls.toString();
    }

    /** Each move and each set of the positions below is there, so that the call takes it away. */
    private static String allOthersOf(int last) {
        StringBuilder calls = new StringBuilder();
        for (int v = 0; v < last; v++) {
            calls.append(each(0, last - 1, "move " + v + " # = 0"));
            calls.append(each(0, 3, "put # " + v + " = 0"));
        }
        return calls.toString();
    }

    private static void takenAwayAndAddedAgain() {
        for (int count = 1; count <= 10; count++) {
            int last = count - 1;
            String again = crowded(count) + "drop = " + last + "; position 1 = " + last + "; ";
            boundary("taken away and added again, without moves: position " + last,
                again + each(0, last, "move # " + last + " = 1") + each(0, last - 1, "move " + last + " # = 1"));
            boundary("taken away and added again, in no set: position " + last,
                again + each(0, 3, "put # " + last + " = 1"));
            boundary("taken away and added again, whose it is now: position " + last,
                again + "goals " + last + " = {0-8}; moves " + last + " = 0; turn " + last + " = 0; goals " + last
                    + " = {}; moves " + last + " = NONE");
            boundary("taken away and added again, the others keep their moves and sets: position " + last,
                again + allOthersOf(last));
        }
        boundary("taken away and added again: two of them",
            crowded(4) + "drop = 3; drop = 2; position 0 = 2; position 1 = 3; goals 2 = {}; goals 3 = {0-8}; "
                + "move 2 3 = 1; move 3 2 = 1; move 2 2 = 1; move 3 3 = 1; put 0 2 = 1; put 0 3 = 1; "
                + "move 0 1 = 0; move 0 3 = 1; move 3 0 = 1");
        boundary("taken away and added again: all ten",
            crowded(10) + each(0, 9, "drop") + "positions = 0; " + each(0, 9, "position 1 = #") + "score = 90; "
                + each(0, 9, "move 9 # = 1") + each(0, 8, "move # 0 = 1") + each(0, 9, "put 3 # = 1"));
        boundary("taken away and added again: it belongs to the player named now",
            "position 0; turn 0 = 1; drop = 0; position 0 = 0; turn 0 = 1",
            "position 1; drop = 0; position 0 = 0; goals 0 = {}; turn 0 = 1");
    }

    private static void moveTurnAndPut() {
        boundary("The move is there from now on if it was not, or is not if it was",
            game("01", "", "") + "move 0 1 = 1; goals 0 = {0-8}; move 0 1 = 0; goals 0 = {}; move 0 1 = 1; "
                + "goals 0 = {0-8}",
            game("01", "", "") + "move 0 1 = 1; move 1 0 = 1; move 0 1 = 0; goodMoves 0 0 = {}; goodMoves 0 1 = {0}");
        boundary("Position v belongs to the other player from now on",
            game("01", "", "") + "turn 0 = 1; turn 0 = 0; turn 1 = 0; turn 1 = 1; winning 0 = {1}");
        boundary("turn answers the player to whom the position belongs then",
            game("01", "", "") + "turn 0 = 1; turn 1 = 0; winning 0 = {0}");
        boundary("Position v is in set s from now on if it was not, or is not if it was",
            game("0", "00", "") + each(0, 3, "put # 0 = 1") + each(0, 3, "put # 0 = 0")
                + "goals 0 = {5,7}; put 0 0 = 1; goals 0 = {0-3,5}");
        boundary("The number of positions: 0, 1, 10, and after refused calls",
            "positions = 0; drop = NONE; positions = 0; position 2 = BAD_ARG; positions = 0; position 0; "
                + "positions = 1; position -1 = BAD_ARG; positions = 1",
            ALL_WON + "positions = 10; position 0 = FULL; positions = 10; drop; positions = 9");
    }

    private static void sets() {
        boundary("winning, the set of the positions: none, each one alone, all ten",
            each(0, 9, "position 0") + "winning 0 = {}; "
                + each(0, 9, "turn # = 1; winning 0 = {#}; turn # = 0")
                + each(0, 9, "turn # = 1") + "winning 0 = {0-9}");
        boundary("goodMoves, the set of the moves: none, each one alone, all ten",
            "position 0; " + each(1, 9, "position 1 = #") + "goodMoves 0 0 = {}; "
                + each(1, 9, "move 0 # = 1; goodMoves 0 0 = {#}; move 0 # = 0")
                + each(0, 9, "move 0 # = 1") + "goodMoves 0 0 = {0-9}",
            "position 1; " + each(1, 9, "position 0 = #") + "goodMoves 8 0 = {}; "
                + each(1, 9, "move 0 # = 1; goodMoves 8 0 = {#}; move 0 # = 0")
                + each(0, 9, "move 0 # = 1") + "goodMoves 8 0 = {0-9}");
        boundary("goodMoves of a position without a move",
            game("01", "", "") + eachGoal("goodMoves # 0 = {}") + eachGoal("goodMoves # 1 = {}"));
        boundary("goodMoves, if the play began there: what came before does not count",
            game("00", "01 11", "A1") + "wins 1 0 = false; goodMoves 1 0 = {1}",
            game("00", "01 11", "A0") + "wins 0 0 = true; goodMoves 0 0 = {}",
            game("10", "01 11", "A1") + "wins 1 0 = false; goodMoves 1 0 = {}",
            game("00", "01 11", "B1") + "wins 8 0 = false; goodMoves 8 0 = {1}");
        boundary("goals, the set of the goals: none and all",
            game("01", "", "") + "goals 0 = {}; goals 1 = {0-8}");
        boundary("score, the number of pairs: none, all of one position, all of ten",
            "score = 0",
            "position 0; score = 0; turn 0 = 1; score = 9",
            each(0, 9, "position 0") + "score = 0",
            ALL_WON + "score = 90");
    }

    private static void leastMoves() {
        boundary("moves: 0 at a position of A, whoever has it and whether or not there is a move",
            game("01", "00 11", "A0 A1") + "moves 0 = 0; moves 1 = 0",
            game("01", "", "A0 A1") + "moves 0 = 0; moves 1 = 0");
        boundary("moves: at most 9, from one end of ten positions to the other",
            game("0101010100", ROW, "A9") + "moves 0 = 9; moves 1 = 8; moves 8 = 1; moves 9 = 0",
            game("0000000000", ROW + " 99", "A9") + "moves 0 = 9",
            game("1111111111", ROW + " 99", "A9") + "moves 0 = 9");
        boundary("moves: the least for player 0, the most for player 1",
            game("0000", "01 12 23 03 33", "A3") + "moves 0 = 1; turn 0 = 1; moves 0 = 3",
            game("1000", "01 02 12 23 33", "A2") + "moves 0 = 2; turn 0 = 0; moves 0 = 1");
        boundary("(or player 1 has no move before that)",
            game("01", "01", "") + "moves 1 = 0; moves 0 = 1",
            game("1111111111", ROW, "") + "moves 0 = 9; moves 9 = 0");
        boundary("NONE if there is none: no way to A ends",
            game("01", "01 10", "") + "moves 0 = NONE; moves 1 = NONE",
            game("11", "00 01 11", "A1") + "moves 0 = NONE; moves 1 = 0");
        boundary("NONE if there is none: player 0 has no move before that",
            game("00", "01", "") + "moves 0 = NONE; moves 1 = NONE",
            game("100", "01 02", "A1") + "moves 0 = NONE; moves 1 = 0; moves 2 = NONE",
            game("0", "", "") + "moves 0 = NONE; turn 0 = 1; moves 0 = 0; turn 0 = 0; moves 0 = NONE");
        boundary("a position at which player 1 has no move counts like one of A: n is 0 from there",
            game("1", "", "") + "moves 0 = 0",
            game("11", "", "A1") + "moves 0 = 0; moves 1 = 0",
            game("1", "00", "") + "moves 0 = NONE; move 0 0 = 0; moves 0 = 0");
        boundary("and 1 from where player 0 can move to it",
            game("01", "00 01", "") + "moves 0 = 1",
            game("11", "01", "") + "moves 0 = 1",
            game("0101", "01 02 23 33", "A3") + "moves 0 = 1; move 0 1 = 0; moves 0 = 2");
    }

    private static void constants() {
        cases++;
        if (EndlessPlays.BAD_ARG != -1 || EndlessPlays.FULL != -2 || EndlessPlays.NONE != -3) {
            fault("The constants", "BAD_ARG, FULL and NONE are not -1, -2 and -3");
        }
    }

    public static void main(String[] args) {
        constants();
        atMostTenPositions();
        moveToItself();
        playerZeroWithoutMove();
        playerOneWithoutMove();
        eitherWithoutMove();
        goalsThatComeOrStay();
        goalsThatComeAgain();
        argumentsOutOfRange(NOTHING, 0);
        argumentsOutOfRange(game("1", "", ""), 1);
        argumentsOutOfRange(SOME, 5);
        argumentsOutOfRange(TEN, 10);
        argumentsOutOfRange(ALL_WON, 10);
        endsOfRanges();
        takenAwayIsOutOfRange();
        orderOfTests();
        refusedCalls();
        questions();
        noCallThrows();
        lastCall();
        newObject();
        positionAndDrop();
        takenAwayAndAddedAgain();
        moveTurnAndPut();
        sets();
        leastMoves();
        System.out.println(cases + " boundary cases, " + wrong + " wrong answers");
        if (wrong != 0) {
            System.exit(1);
        }
    }
}
