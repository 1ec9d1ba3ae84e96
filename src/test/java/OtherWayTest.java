import java.util.function.IntPredicate;

/**
 * Many small games whose answers are also found in another way: the goals about what comes again and again
 * by Zielonka's recursion on sets of colours, the goals 0, 1 and 8 and moves by plain sets of positions.
 * The games come from a fixed sequence of numbers, so that every run is the same.
 */
public final class OtherWayTest {
    private static int wrong = 0;
    private static long seed = 20261115L;

    private static int count;
    private static final int[] owner = new int[10];
    private static final int[] next = new int[10];
    private static final int[] sets = new int[4];

    private static int number(int bound) {
        seed = seed * 6364136223846793005L + 1442695040888963407L;
        return (int) ((seed >>> 33) % bound);
    }

    // ---- the other way ----

    private static int all() {
        return (1 << count) - 1;
    }

    /** The positions of the arena from which a player can have the next position in the target. */
    private static int force(int player, int target, int arena) {
        int result = 0;
        for (int v = 0; v < count; v++) {
            int out = next[v] & arena;
            boolean can = owner[v] == player ? (out & target) != 0 : (out & ~target) == 0;
            if (can && (arena >> v & 1) == 1) {
                result |= 1 << v;
            }
        }
        return result;
    }

    private static int attract(int player, int target, int arena) {
        int reached = target & arena;
        while ((force(player, reached, arena) & ~reached) != 0) {
            reached |= force(player, reached, arena);
        }
        return reached;
    }

    private static int stuck(int player) {
        int result = 0;
        for (int v = 0; v < count; v++) {
            if (owner[v] == player && next[v] == 0) {
                result |= 1 << v;
            }
        }
        return result;
    }

    private static int colour(int v) {
        int result = 0;
        for (int s = 0; s < 4; s++) {
            result |= (sets[s] >> v & 1) << s;
        }
        return result;
    }

    /** Whether a goal is met if just these sets come again and again. */
    private static boolean met(int goal, int colours) {
        boolean a = (colours & 1) != 0;
        boolean b = (colours & 2) != 0;
        boolean c = (colours & 4) != 0;
        boolean d = (colours & 8) != 0;
        switch (goal) {
            case 2: return a;
            case 4: return a && b;
            case 5: return !(a && b) || c && d;
            case 6: return b && !a || d && !c;
            default: return (!a || b) && (!c || d);
        }
    }

    /** The positions of an arena without dead ends, all of these colours, from which player 0 wins. */
    private static int zielonka(IntPredicate met, int arena, int colours) {
        int player = met.test(colours) ? 0 : 1;
        int other = 1 - player;
        int lost = 0;
        boolean more = true;
        while (more) {
            more = false;
            lost = attract(other, lost, arena);
            int rest = arena & ~lost;
            for (int less = 0; less < 16 && !more; less++) {
                boolean part = (less & ~colours) == 0 && less != colours;
                if (!part || met.test(less) == met.test(colours)) {
                    continue;
                }
                int outside = 0;
                for (int v = 0; v < count; v++) {
                    if ((rest >> v & 1) == 1 && (colour(v) & ~less) != 0) {
                        outside |= 1 << v;
                    }
                }
                int inner = rest & ~attract(player, outside, rest);
                int won = inner == 0 ? 0 : zielonka(met, inner, less);
                int gained = other == 0 ? won : inner & ~won;
                if (gained != 0) {
                    lost |= gained;
                    more = true;
                }
            }
        }
        return other == 0 ? lost : arena & ~lost;
    }

    private static int again(IntPredicate met) {
        int sure = attract(0, stuck(1), all());
        int gone = attract(1, stuck(0), all());
        return sure | zielonka(met, all() & ~sure & ~gone, 15);
    }

    /** The last set of a sequence that starts with one and is made by the rule of goal 0, 1 or 8. */
    private static int stepwise(int goal) {
        int sure = attract(0, stuck(1), all());
        int safe = all() & ~attract(1, stuck(0), all());
        int now = goal == 1 ? all() : 0;
        for (int i = 0; i <= count; i++) {
            int forced = force(0, now, all());
            if (goal == 0) {
                now = sure | sets[0] & safe | forced;
            } else if (goal == 1) {
                now = sure | sets[0] & forced;
            } else {
                now = sure | sets[1] & safe | sets[0] & forced;
            }
        }
        return now;
    }

    private static int otherWinning(int goal) {
        if (goal == 0 || goal == 1 || goal == 8) {
            return stepwise(goal);
        }
        if (goal == 3) {
            // Player 1 wants to come again and again to what is outside A.
            int kept = sets[0];
            sets[0] = all() & ~kept;
            int result = again(colours -> (colours & 1) == 0);
            sets[0] = kept;
            return result;
        }
        return again(colours -> met(goal, colours));
    }

    private static int otherMoves(int v) {
        int[] need = new int[count];
        for (int w = 0; w < count; w++) {
            need[w] = (sets[0] >> w & 1) == 1 || (stuck(1) >> w & 1) == 1 ? 0 : 99;
        }
        for (int i = 0; i < count; i++) {
            for (int w = 0; w < count; w++) {
                int best = 99;
                int worst = 0;
                for (int x = 0; x < count; x++) {
                    if ((next[w] >> x & 1) == 1) {
                        best = Math.min(best, need[x]);
                        worst = Math.max(worst, need[x]);
                    }
                }
                need[w] = Math.min(need[w], 1 + (owner[w] == 0 ? best : worst));
            }
        }
        return need[v] >= 99 ? EndlessPlays.NONE : need[v];
    }

    // ---- the comparison ----

    private static void due(String call, long got, long want) {
        if (got != want) {
            wrong++;
            if (wrong <= 20) {
                System.out.println(game() + " " + call + " answered " + got + ", due is " + want);
            }
        }
    }

    private static String game() {
        StringBuilder text = new StringBuilder();
        for (int v = 0; v < count; v++) {
            text.append(v).append(":p").append(owner[v]).append(" to ").append(next[v]);
            text.append(" in ").append(colour(v)).append("; ");
        }
        return text.toString();
    }

    private static EndlessPlays build() {
        EndlessPlays x = new EndlessPlays();
        for (int v = 0; v < count; v++) {
            due("position", x.position(owner[v]), v);
        }
        for (int v = 0; v < count; v++) {
            for (int w = 0; w < count; w++) {
                if ((next[v] >> w & 1) == 1) {
                    due("move", x.move(v, w), 1);
                }
            }
            for (int s = 0; s < 4; s++) {
                if ((sets[s] >> v & 1) == 1) {
                    due("put", x.put(s, v), 1);
                }
            }
        }
        return x;
    }

    private static void draw(int size) {
        count = size;
        int moveChance = 5 + number(60);
        int setChance = 5 + number(60);
        boolean deadEnds = number(3) == 0;
        for (int s = 0; s < 4; s++) {
            sets[s] = 0;
        }
        for (int v = 0; v < count; v++) {
            owner[v] = number(2);
            next[v] = 0;
            for (int w = 0; w < count; w++) {
                next[v] |= number(100) < moveChance ? 1 << w : 0;
            }
            if (next[v] == 0 && !deadEnds) {
                next[v] = 1 << number(count);
            }
            for (int s = 0; s < 4; s++) {
                sets[s] |= number(100) < setChance ? 1 << v : 0;
            }
        }
    }

    private static void compare(EndlessPlays x) {
        int[] met = new int[count];
        int pairs = 0;
        for (int goal = 0; goal < 9; goal++) {
            int won = otherWinning(goal);
            due("winning(" + goal + ")", x.winning(goal), won);
            for (int v = 0; v < count; v++) {
                int good = next[v] & (owner[v] == 0 ? won : ~won);
                due("wins(" + goal + ", " + v + ")", x.wins(goal, v) ? 1 : 0, won >> v & 1);
                due("goodMoves(" + goal + ", " + v + ")", x.goodMoves(goal, v), good);
                met[v] |= (won >> v & 1) << goal;
            }
            pairs += Integer.bitCount(won);
        }
        for (int v = 0; v < count; v++) {
            due("goals(" + v + ")", x.goals(v), met[v]);
            due("moves(" + v + ")", x.moves(v), otherMoves(v));
        }
        due("score()", x.score(), pairs);
        due("positions()", x.positions(), count);
    }

    /** Every game of one position and of two. */
    private static void compareSmallest() {
        for (int code = 0; code < 64; code++) {
            count = 1;
            owner[0] = code & 1;
            next[0] = code >> 1 & 1;
            for (int s = 0; s < 4; s++) {
                sets[s] = code >> 2 + s & 1;
            }
            compare(build());
        }
        for (int code = 0; code < 64 * 256; code++) {
            count = 2;
            owner[0] = code & 1;
            owner[1] = code >> 1 & 1;
            next[0] = code >> 2 & 3;
            next[1] = code >> 4 & 3;
            for (int s = 0; s < 4; s++) {
                sets[s] = code >> 6 + 2 * s & 3;
            }
            compare(build());
        }
    }

    private static boolean there(int v) {
        return v >= 0 && v < count;
    }

    private static void dropLast() {
        count--;
        for (int v = 0; v < 10; v++) {
            next[v] &= ~(1 << count);
        }
        for (int s = 0; s < 4; s++) {
            sets[s] &= ~(1 << count);
        }
        next[count] = 0;
    }

    /** One call that changes the game, or is refused, made on the object and on the game kept here. */
    private static void change(EndlessPlays x) {
        int v = number(count + 2) - 1;
        int w = number(count + 2) - 1;
        int s = number(6) - 1;
        int kind = number(20);
        if (kind < 4) {
            int player = number(4) - 1;
            int want = player < 0 || player > 1 ? EndlessPlays.BAD_ARG : count == 10 ? EndlessPlays.FULL : count;
            due("position(" + player + ")", x.position(player), want);
            if (want >= 0) {
                owner[count] = player;
                next[count] = 0;
                count++;
            }
        } else if (kind == 4) {
            int want = count == 0 ? EndlessPlays.NONE : count - 1;
            due("drop()", x.drop(), want);
            if (want >= 0) {
                dropLast();
            }
        } else if (kind < 13) {
            boolean fine = there(v) && there(w);
            next[fine ? v : 0] ^= fine ? 1 << w : 0;
            due("move(" + v + ", " + w + ")", x.move(v, w), fine ? next[v] >> w & 1 : EndlessPlays.BAD_ARG);
        } else if (kind < 15) {
            owner[there(v) ? v : 0] ^= there(v) ? 1 : 0;
            due("turn(" + v + ")", x.turn(v), there(v) ? owner[v] : EndlessPlays.BAD_ARG);
        } else {
            boolean fine = there(v) && s >= 0 && s < 4;
            sets[fine ? s : 0] ^= fine ? 1 << v : 0;
            due("put(" + s + ", " + v + ")", x.put(s, v), fine ? sets[s] >> v & 1 : EndlessPlays.BAD_ARG);
        }
    }

    private static void clear() {
        count = 0;
        for (int v = 0; v < 10; v++) {
            owner[v] = 0;
            next[v] = 0;
        }
        for (int s = 0; s < 4; s++) {
            sets[s] = 0;
        }
    }

    /**
     * One object through a long run of changes, with questions between them. Two calls a round and at most
     * 211 at the end keep within the 512 calls for which the document promises anything.
     */
    private static void compareRun() {
        clear();
        EndlessPlays x = new EndlessPlays();
        for (int round = 0; round < 150; round++) {
            change(x);
            int goal = number(9);
            due("winning(" + goal + ")", x.winning(goal), otherWinning(goal));
        }
        compare(x);
    }

    public static void main(String[] args) {
        compareSmallest();
        for (int round = 0; round < 400; round++) {
            compareRun();
        }
        for (int round = 0; round < 12000; round++) {
            draw(1 + number(10));
            compare(build());
        }
        System.out.println(wrong == 0 ? "all answers are as found the other way" : wrong + " answers are wrong");
        if (wrong != 0) {
            System.exit(1);
        }
    }
}
