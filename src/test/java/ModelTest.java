import java.util.ArrayDeque;
import java.util.ArrayList;
import java.util.BitSet;
import java.util.Deque;
import java.util.List;

/**
 * Compares DefiniteUse with a second reading of the document, which follows runs one by one
 * instead of gathering masks: its states are a place together with the variables set so far.
 */
public final class ModelTest {
    private static final int SET = 0;
    private static final int USE = 1;
    private static final int IF = 2;
    private static final int ELSE = 3;
    private static final int LOOP = 4;
    private static final int ALWAYS = 5;
    private static final int END = 6;
    private static final int BREAK = 7;
    private static final int CONTINUE = 8;
    private static final int RETURN = 9;

    private static final Checks CHECKS = new Checks();
    private static long seed = 20261115;

    private int[] kinds = new int[0];
    private int[] variables = new int[0];
    private int calls = 0;

    public static void main(String[] args) {
        everyShortProgram();
        for (int round = 0; round < 4000; round++) {
            madeUpProgram(round);
        }
        CHECKS.finish();
    }

    /** Every row of at most four kinds, with few variables: most of them are not sound. */
    private static void everyShortProgram() {
        for (int length = 0; length <= 4; length++) {
            int rows = (int) Math.pow(10, length);
            for (int row = 0; row < rows; row++) {
                ModelTest model = new ModelTest();
                DefiniteUse x = new DefiniteUse();
                int rest = row;
                for (int p = 0; p < length; p++) {
                    model.add(x, rest % 10, (row + p) % 2);
                    rest /= 10;
                }
                model.compare(x);
            }
        }
    }

    /** Built by nesting, so that it is sound; then some changes and drops, sound or not. */
    private static void madeUpProgram(int round) {
        ModelTest model = new ModelTest();
        DefiniteUse x = new DefiniteUse();
        List<Integer> made = new ArrayList<>();
        block(made, 2 + below(39), false, 0);
        int names = 1 + round % 6;
        for (int kind : made) {
            model.add(x, kind, below(names));
        }
        model.compare(x);
        for (int step = 0; step < 3 && model.kinds.length > 0 && model.mayCompareAgain(); step++) {
            if (below(4) == 0) {
                model.drop(x);
            } else {
                // Mostly kinds that leave the nesting alone, so that most stay sound.
                int p = below(model.kinds.length);
                boolean plain = model.kinds[p] <= USE || model.kinds[p] >= BREAK;
                int[] fits = plain ? new int[] {SET, USE, RETURN, BREAK, CONTINUE} : new int[] {IF, LOOP, ALWAYS, END, ELSE};
                model.change(x, p, fits[below(5)], below(names));
            }
            model.compare(x);
        }
    }

    private static void block(List<Integer> made, int most, boolean inLoop, int depth) {
        int end = Math.min(40, made.size() + most);
        while (made.size() < end && below(12) != 0) {
            int pick = below(20);
            if (pick < 9 || depth > 5) {
                made.add(below(2));
            } else if (pick < 10) {
                made.add(RETURN);
            } else if (pick < 12) {
                made.add(inLoop ? BREAK + below(2) : USE);
            } else {
                nest(made, end - made.size(), inLoop, depth);
            }
        }
    }

    private static void nest(List<Integer> made, int room, boolean inLoop, int depth) {
        if (room < 3) {
            made.add(SET);
            return;
        }
        int kind = List.of(IF, IF, LOOP, ALWAYS).get(below(4));
        made.add(kind);
        int inner = below(room - 2);
        block(made, inner, inLoop || kind != IF, depth + 1);
        int left = room - 1 - inner;
        if (kind == IF && left >= 2 && below(2) == 0) {
            made.add(ELSE);
            block(made, below(left - 1), inLoop, depth + 1);
        }
        made.add(END);
    }

    private static int below(int bound) {
        seed = seed * 6364136223846793005L + 1442695040888963407L;
        return (int) ((seed >>> 33) % bound);
    }

    /** The document grants 512 calls: a step and a comparison take at most 1 and 214. */
    private boolean mayCompareAgain() {
        return calls + 215 <= 512;
    }

    private void add(DefiniteUse x, int kind, int v) {
        calls++;
        CHECKS.due("add to " + this, x.add(kind, v), kinds.length);
        kinds = java.util.Arrays.copyOf(kinds, kinds.length + 1);
        variables = java.util.Arrays.copyOf(variables, kinds.length);
        kinds[kinds.length - 1] = kind;
        variables[kinds.length - 1] = v;
    }

    private void change(DefiniteUse x, int p, int kind, int v) {
        calls++;
        CHECKS.due("change in " + this, x.change(p, kind, v), kinds[p]);
        kinds[p] = kind;
        variables[p] = v;
    }

    private void drop(DefiniteUse x) {
        calls++;
        CHECKS.due("drop from " + this, x.drop(), kinds.length - 1);
        kinds = java.util.Arrays.copyOf(kinds, kinds.length - 1);
        variables = java.util.Arrays.copyOf(variables, kinds.length);
    }

    private void compare(DefiniteUse x) {
        calls += 5 * (kinds.length + 2) + 4;
        boolean sound = isSound();
        CHECKS.due("sound: " + this, x.sound(), sound);
        BitSet[] seen = sound ? statesSeen() : null;
        int doubts = 0;
        int idles = 0;
        for (int p = -1; p <= kinds.length; p++) {
            boolean token = sound && p >= 0 && p < kinds.length;
            int none = sound ? DefiniteUse.BAD_PLACE : DefiniteUse.NOT_SOUND;
            boolean reached = token && !seen[p].isEmpty();
            int surely = token ? commonMask(seen[p]) : none;
            boolean idle = reached && kinds[p] == SET && !usedFrom(ways(p), variables[p]);
            CHECKS.due("reached(" + p + "): " + this, x.reached(p), reached);
            CHECKS.due("surely(" + p + "): " + this, x.surely(p), surely);
            CHECKS.due("idle(" + p + "): " + this, x.idle(p), idle);
            CHECKS.due("wanted(" + p + "): " + this, x.wanted(p), token ? wantedMask(p) : none);
            CHECKS.due("endOf(" + p + "): " + this, x.endOf(p),
                token && isBegin(p) ? endBehind(p) : none);
            idles += idle ? 1 : 0;
            doubts += reached && kinds[p] == USE && (surely >> variables[p] & 1) == 0 ? 1 : 0;
        }
        CHECKS.due("doubts: " + this, x.doubts(), sound ? doubts : DefiniteUse.NOT_SOUND);
        CHECKS.due("idles: " + this, x.idles(), sound ? idles : DefiniteUse.NOT_SOUND);
        CHECKS.due("completes: " + this, x.completes(), sound && !seen[kinds.length].isEmpty());
    }

    /** By wiping out innermost pieces until nothing but nothing is left. */
    private boolean isSound() {
        StringBuilder text = new StringBuilder();
        for (int kind : kinds) {
            text.append("ssielaxbbs".charAt(kind));
        }
        String left = text.toString().replace("s", "");
        String before = "";
        while (!left.equals(before)) {
            before = left;
            // A loop takes its breaks with it; an IF hands its breaks on to what is around it.
            left = left.replaceAll("[la]b*x", "").replaceAll("i(b*)e(b*)x", "$1$2").replaceAll("i(b*)x", "$1");
        }
        return left.isEmpty();
    }

    private boolean isBegin(int p) {
        return kinds[p] == IF || kinds[p] == LOOP || kinds[p] == ALWAYS;
    }

    private int endBehind(int p) {
        int depth = 1;
        int q = p;
        while (depth > 0) {
            q++;
            depth += isBegin(q) ? 1 : kinds[q] == END ? -1 : 0;
        }
        return q;
    }

    private int elseBehind(int p) {
        for (int q = p + 1; q < endBehind(p); q++) {
            if (kinds[q] == ELSE && beginAround(q, false) == p) {
                return q;
            }
        }
        return -1;
    }

    /** The innermost begin, or loop, whose END is at or behind q. */
    private int beginAround(int q, boolean loopOnly) {
        for (int p = q - 1; p >= 0; p--) {
            if (isBegin(p) && endBehind(p) >= q && !(loopOnly && kinds[p] == IF)) {
                return p;
            }
        }
        throw new IllegalStateException(toString());
    }

    private List<Integer> ways(int p) {
        switch (kinds[p]) {
            case IF: return List.of(p + 1, elseBehind(p) < 0 ? endBehind(p) : elseBehind(p) + 1);
            case ELSE: return List.of(endBehind(beginAround(p, false)));
            case LOOP: return List.of(p + 1, endBehind(p) + 1);
            case END: return List.of(kinds[beginAround(p, false)] == IF ? p + 1 : beginAround(p, false));
            case BREAK: return List.of(endBehind(beginAround(p, true)) + 1);
            case CONTINUE: return List.of(beginAround(p, true));
            case RETURN: return List.of();
            default: return List.of(p + 1);
        }
    }

    /** For each place, the sets of variables with which some run comes to it. */
    private BitSet[] statesSeen() {
        BitSet[] seen = new BitSet[kinds.length + 1];
        List<List<Integer>> allWays = new ArrayList<>();
        for (int p = 0; p <= kinds.length; p++) {
            seen[p] = new BitSet();
            allWays.add(p < kinds.length ? ways(p) : List.of());
        }
        Deque<int[]> open = new ArrayDeque<>();
        open.push(new int[] {0, 0});
        while (!open.isEmpty()) {
            int[] state = open.pop();
            int p = state[0];
            if (seen[p].get(state[1])) {
                continue;
            }
            seen[p].set(state[1]);
            boolean sets = p < kinds.length && kinds[p] == SET;
            int mask = sets ? state[1] | 1 << variables[p] : state[1];
            for (int way : allWays.get(p)) {
                open.push(new int[] {way, mask});
            }
        }
        return seen;
    }

    private static int commonMask(BitSet masks) {
        int common = 63;
        for (int mask = masks.nextSetBit(0); mask >= 0; mask = masks.nextSetBit(mask + 1)) {
            common &= mask;
        }
        return common;
    }

    private int wantedMask(int p) {
        int mask = 0;
        for (int v = 0; v < 6; v++) {
            mask |= usedFrom(List.of(p), v) ? 1 << v : 0;
        }
        return mask;
    }

    private boolean usedFrom(List<Integer> starts, int v) {
        BitSet seen = new BitSet();
        Deque<Integer> open = new ArrayDeque<>(starts);
        while (!open.isEmpty()) {
            int p = open.pop();
            if (p == kinds.length || seen.get(p)) {
                continue;
            }
            seen.set(p);
            boolean named = kinds[p] <= USE && variables[p] == v;
            if (named && kinds[p] == USE) {
                return true;
            }
            if (!named) {
                open.addAll(ways(p));
            }
        }
        return false;
    }

    @Override
    public String toString() {
        StringBuilder text = new StringBuilder();
        for (int p = 0; p < kinds.length; p++) {
            text.append(p > 0 ? " " : "").append(Checks.KINDS.get(kinds[p]));
            text.append(kinds[p] <= USE ? "" + variables[p] : "");
        }
        return text.toString();
    }
}
