/**
 * Two players who move from position to position without end, and nine kinds of goals for player 0.
 *
 * Each goal is turned into one question of the same kind. A play is followed by a small memory (which
 * starts at 0 and takes in each position as the play comes to it), and each pair of a memory and a
 * position, a STATE, has a RANK: player 0 meets the goal just if the greatest rank that comes again and
 * again is even. Sets of positions and of states are held as bits of one number.
 */
public final class EndlessPlays {
    public static final int BAD_ARG = -1;
    public static final int FULL = -2;
    public static final int NONE = -3;

    private static final int MOST_POSITIONS = 10;
    private static final int SETS = 4;
    private static final int GOALS = 9;
    private static final int A = 0;
    private static final int B = 1;
    private static final int C = 2;
    private static final int ALL_POSITIONS = 1023;
    private static final int STATES = 40;
    private static final int RANKS = 6;
    // No run needs 20000: a rank's states change in one direction alone until a greater rank changes, so
    // there are fewer changes than the product of all (states of a rank + 1), which is at most 3125 (20
    // states in 5 ranks), and at most 6 rounds go by from one change to the next.
    private static final int MOST_ROUNDS = 1000000;

    private final int[] owner = new int[MOST_POSITIONS];
    private final int[] movesFrom = new int[MOST_POSITIONS];
    private final int[] members = new int[SETS];
    private int count;

    // The game of the goal that is being asked for; laid out anew by each question.
    private final int[] memoryAfter = new int[STATES];
    private final long[] statesOfRank = new long[RANKS];
    private int memories;

    public EndlessPlays() {
        count = 0;
        memories = 0;
    }

    public int position(int player) {
        if (player != 0 && player != 1) {
            return BAD_ARG;
        }
        if (count >= MOST_POSITIONS) {
            return FULL;
        }
        owner[count] = player;
        movesFrom[count] = 0;
        count++;
        return count - 1;
    }

    public int drop() {
        if (count <= 0) {
            return NONE;
        }
        count--;
        int others = ~(1 << count);
        for (int v = 0; v < MOST_POSITIONS; v++) {
            movesFrom[v] &= others;
        }
        for (int s = 0; s < SETS; s++) {
            members[s] &= others;
        }
        return count;
    }

    public int move(int v, int w) {
        if (!isPosition(v) || !isPosition(w)) {
            return BAD_ARG;
        }
        movesFrom[v] ^= 1 << w;
        return movesFrom[v] >> w & 1;
    }

    public int turn(int v) {
        if (!isPosition(v)) {
            return BAD_ARG;
        }
        owner[v] = 1 - owner[v];
        return owner[v];
    }

    public int put(int s, int v) {
        if (s < 0 || s >= SETS || !isPosition(v)) {
            return BAD_ARG;
        }
        members[s] ^= 1 << v;
        return members[s] >> v & 1;
    }

    public int positions() {
        return count;
    }

    public int winning(int goal) {
        if (!isGoal(goal)) {
            return BAD_ARG;
        }
        return wonPositions(goal);
    }

    public boolean wins(int goal, int v) {
        if (!isGoal(goal) || !isPosition(v)) {
            return false;
        }
        return (wonPositions(goal) >> v & 1) == 1;
    }

    public int goodMoves(int goal, int v) {
        if (!isGoal(goal) || !isPosition(v)) {
            return BAD_ARG;
        }
        int won = wonPositions(goal);
        // One of the two players always wins, so player 1 has what player 0 has not.
        return owner[v] == 0 ? movesFrom[v] & won : movesFrom[v] & ~won;
    }

    public int moves(int v) {
        if (!isPosition(v)) {
            return BAD_ARG;
        }
        int reached = members[A] | stuckPositions();
        for (int n = 0; n < MOST_POSITIONS; n++) {
            if ((reached >> v & 1) == 1) {
                return n;
            }
            reached |= positionsForcing(reached);
        }
        return NONE;
    }

    public int goals(int v) {
        if (!isPosition(v)) {
            return BAD_ARG;
        }
        int met = 0;
        for (int goal = 0; goal < GOALS; goal++) {
            met |= (wonPositions(goal) >> v & 1) << goal;
        }
        return met;
    }

    public int score() {
        int pairs = 0;
        for (int goal = 0; goal < GOALS; goal++) {
            int won = wonPositions(goal);
            for (int v = 0; v < MOST_POSITIONS; v++) {
                pairs += won >> v & 1;
            }
        }
        return pairs;
    }

    private boolean isPosition(int v) {
        return v >= 0 && v < count;
    }

    private boolean isGoal(int goal) {
        return goal >= 0 && goal < GOALS;
    }

    private boolean isIn(int s, int v) {
        return (members[s] >> v & 1) == 1;
    }

    /**
     * Whether player 0 can have the next position in the target. A player without a move loses, and here
     * that needs no case of its own: player 1 then has no move out of the target, player 0 none into it.
     */
    private boolean canForce(int v, int target) {
        int into = movesFrom[v] & target;
        return owner[v] == 0 ? into != 0 : into == movesFrom[v];
    }

    private int positionsForcing(int target) {
        int forcing = 0;
        for (int v = 0; v < count; v++) {
            if (canForce(v, target)) {
                forcing |= 1 << v;
            }
        }
        return forcing;
    }

    /** The positions at which player 1 has no move: the only ones that force even the empty set. */
    private int stuckPositions() {
        return positionsForcing(0);
    }

    private int wonPositions(int goal) {
        layOut(goal);
        // Every play starts with memory 0, and the states with that memory are the lowest bits.
        return (int) wonStates() & ALL_POSITIONS;
    }

    private void layOut(int goal) {
        memories = memoriesOf(goal);
        for (int rank = 0; rank < RANKS; rank++) {
            statesOfRank[rank] = 0;
        }
        for (int memory = 0; memory < memories; memory++) {
            for (int v = 0; v < count; v++) {
                int state = memory * MOST_POSITIONS + v;
                int rank = rankOf(goal, memory, v);
                memoryAfter[state] = nextMemory(goal, memory, v);
                statesOfRank[rank] |= 1L << state;
            }
        }
    }

    /**
     * The states from which player 0 wins. First each state is taken as won by the player whom its rank
     * is good for. A state of a rank is given to the other player when that player can force it, looking
     * one move ahead; then all lower ranks, which were settled on the old belief, start again.
     */
    private long wonStates() {
        long won = startAgainBelow(RANKS, 0);
        int rank = 0;
        for (int round = 0; round < MOST_ROUNDS && rank < RANKS; round++) {
            long ofRank = statesOfRank[rank];
            long forced = statesForcing(won) & ofRank;
            if (forced == (won & ofRank)) {
                rank++;
            } else {
                won = startAgainBelow(rank, won & ~ofRank | forced);
                rank = 0;
            }
        }
        return won;
    }

    private long startAgainBelow(int rank, long won) {
        long result = won;
        for (int lower = 0; lower < rank; lower++) {
            if (lower % 2 == 0) {
                result |= statesOfRank[lower];
            } else {
                result &= ~statesOfRank[lower];
            }
        }
        return result;
    }

    private long statesForcing(long won) {
        long forcing = 0;
        for (int memory = 0; memory < memories; memory++) {
            for (int v = 0; v < count; v++) {
                int state = memory * MOST_POSITIONS + v;
                int target = (int) (won >>> (memoryAfter[state] * MOST_POSITIONS)) & ALL_POSITIONS;
                if (canForce(v, target)) {
                    forcing |= 1L << state;
                }
            }
        }
        return forcing;
    }

    private int memoriesOf(int goal) {
        switch (goal) {
            case 2:
            case 3:
                return 1;
            case 5:
                return 4;
            case 8:
                return 3;
            default:
                return 2;
        }
    }

    /** The memory once the position v has been taken in. */
    private int nextMemory(int goal, int memory, int v) {
        switch (goal) {
            case 0:
                return memory == 1 || isIn(A, v) ? 1 : 0;
            case 1:
                return memory == 1 || !isIn(A, v) ? 1 : 0;
            case 4:
                return nextAwaited(A, memory, v);
            case 5:
                return nextAwaited(A, memory & 1, v) + 2 * nextAwaited(C, memory >> 1, v);
            case 6:
                return nextFront(A, memory, v);
            case 7:
                return nextFront(B, memory, v);
            case 8:
                return nextUntil(memory, v);
            default:
                return 0;
        }
    }

    private int rankOf(int goal, int memory, int v) {
        switch (goal) {
            case 0:
                return memory == 1 || isIn(A, v) ? 0 : 1;
            case 1:
                return memory == 1 || !isIn(A, v) ? 1 : 0;
            case 2:
                return isIn(A, v) ? 2 : 1;
            case 3:
                return isIn(A, v) ? 0 : 1;
            case 4:
                return bothCame(A, memory, v) ? 2 : 1;
            case 5:
                return bothCame(C, memory >> 1, v) ? 2 : bothCame(A, memory & 1, v) ? 1 : 0;
            case 6:
                // Goal 6 is what goal 7 forbids, with A and B, and C and D, in each other's place.
                return 1 + pairsRank(A, memory, v);
            case 7:
                return pairsRank(B, memory, v);
            default:
                return nextUntil(memory, v) == 1 ? 0 : 1;
        }
    }

    /**
     * Awaiting the first set (0) and its neighbour (1) by turns: the turns go on without end just if the
     * play comes to both again and again.
     */
    private int nextAwaited(int first, int awaited, int v) {
        return isIn(first + awaited, v) ? 1 - awaited : awaited;
    }

    private boolean bothCame(int first, int awaited, int v) {
        return awaited == 1 && isIn(first + 1, v);
    }

    /**
     * The sets A, B make pair 0 and C, D pair 1; of each pair one set calls and the other answers. The
     * memory is the pair in front. A pair behind that is answered comes to the front, so that in the end
     * a pair that is no longer answered stays behind, if there is one.
     */
    private int nextFront(int answering, int front, int v) {
        int behind = 1 - front;
        return isIn(2 * behind + answering, v) ? behind : front;
    }

    /** A pair behind outranks the one in front: if it is answered without end, both of them are. */
    private int pairsRank(int answering, int front, int v) {
        int behind = 1 - front;
        int calling = 1 - answering;
        if (isIn(2 * behind + answering, v)) {
            return 4;
        }
        if (isIn(2 * behind + calling, v)) {
            return 3;
        }
        if (isIn(2 * front + answering, v)) {
            return 2;
        }
        return isIn(2 * front + calling, v) ? 1 : 0;
    }

    /** 0: no position of B yet, all were of A; 1: B came in time; 2: a position of neither came first. */
    private int nextUntil(int memory, int v) {
        if (memory != 0) {
            return memory;
        }
        if (isIn(B, v)) {
            return 1;
        }
        return isIn(A, v) ? 0 : 2;
    }
}
