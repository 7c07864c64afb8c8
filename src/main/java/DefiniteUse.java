/** Checks of small structured programs. */
public final class DefiniteUse {
    public static final int BAD_KIND = -1;
    public static final int BAD_VARIABLE = -2;
    public static final int FULL = -3;
    public static final int NOT_SOUND = -4;
    public static final int BAD_PLACE = -5;

    private static final int SET = 0;
    private static final int USE = 1;
    private static final int IF = 2;
    private static final int ELSE = 3;
    private static final int LOOP = 4;
    private static final int ALWAYS = 5;
    private static final int END = 6;
    private static final int BREAK = 7;
    private static final int CONTINUE = 8;
    private static final int RETURN = 9;

    private static final int KINDS = 10;
    private static final int VARIABLES = 6;
    private static final int ALL_VARIABLES = 63;
    private static final int MOST_TOKENS = 40;
    // A run can also stand behind the last token, so there is one place more than tokens.
    private static final int MOST_PLACES = 41;
    private static final int NONE = -1;
    private static final int NO_FAULT = 0;

    private final int[] kinds = new int[MOST_TOKENS];
    private final int[] variables = new int[MOST_TOKENS];
    private int size = 0;

    // What the tokens belong to; all of it holds only while the program is sound.
    private final int[] ends = new int[MOST_TOKENS];
    private final int[] elses = new int[MOST_TOKENS];
    private final int[] begins = new int[MOST_TOKENS];
    private final int[] outerOpen = new int[MOST_TOKENS];
    private final int[] outerLoop = new int[MOST_TOKENS];
    private int innermostOpen = NONE;
    private int innermostLoop = NONE;
    private boolean wellFormed = true;

    // The at most two places that a run can come to behind a token.
    private final int[] firstWay = new int[MOST_TOKENS];
    private final int[] secondWay = new int[MOST_TOKENS];

    private final boolean[] reachedAt = new boolean[MOST_PLACES];
    private final int[] surelyAt = new int[MOST_PLACES];
    private final int[] wantedAt = new int[MOST_PLACES];

    public DefiniteUse() {
        analyse();
    }

    public int add(int kind, int v) {
        int fault = tokenFault(kind, v);
        if (fault != NO_FAULT) {
            return fault;
        }
        if (size >= MOST_TOKENS) {
            return FULL;
        }
        int p = size;
        kinds[p] = kind;
        variables[p] = v;
        size = p + 1;
        analyse();
        return p;
    }

    public int change(int p, int kind, int v) {
        if (!isToken(p)) {
            return BAD_PLACE;
        }
        int fault = tokenFault(kind, v);
        if (fault != NO_FAULT) {
            return fault;
        }
        int oldKind = kinds[p];
        kinds[p] = kind;
        variables[p] = v;
        analyse();
        return oldKind;
    }

    public int drop() {
        if (size == 0) {
            return BAD_PLACE;
        }
        size--;
        analyse();
        return size;
    }

    public boolean sound() {
        return wellFormed;
    }

    public boolean reached(int p) {
        return wellFormed && isToken(p) && reachedAt[p];
    }

    public int surely(int p) {
        int fault = placeFault(p);
        return fault != NO_FAULT ? fault : surelyAt[p];
    }

    public int doubts() {
        if (!wellFormed) {
            return NOT_SOUND;
        }
        int count = 0;
        for (int p = 0; p < size; p++) {
            if (isDoubtfulUse(p)) {
                count++;
            }
        }
        return count;
    }

    public boolean completes() {
        return wellFormed && reachedAt[size];
    }

    public boolean idle(int p) {
        return wellFormed && isToken(p) && isIdleSet(p);
    }

    public int idles() {
        if (!wellFormed) {
            return NOT_SOUND;
        }
        int count = 0;
        for (int p = 0; p < size; p++) {
            if (isIdleSet(p)) {
                count++;
            }
        }
        return count;
    }

    public int wanted(int p) {
        int fault = placeFault(p);
        return fault != NO_FAULT ? fault : wantedAt[p];
    }

    public int endOf(int p) {
        int fault = placeFault(p);
        if (fault != NO_FAULT) {
            return fault;
        }
        return isBegin(kinds[p]) ? ends[p] : BAD_PLACE;
    }

    private boolean isToken(int p) {
        return p >= 0 && p < size;
    }

    private static int tokenFault(int kind, int v) {
        if (kind < 0 || kind >= KINDS) {
            return BAD_KIND;
        }
        boolean namesVariable = kind == SET || kind == USE;
        if (namesVariable && (v < 0 || v >= VARIABLES)) {
            return BAD_VARIABLE;
        }
        return NO_FAULT;
    }

    private int placeFault(int p) {
        if (!wellFormed) {
            return NOT_SOUND;
        }
        return isToken(p) ? NO_FAULT : BAD_PLACE;
    }

    private static boolean isBegin(int kind) {
        return kind == IF || kind == LOOP || kind == ALWAYS;
    }

    private boolean isDoubtfulUse(int p) {
        return kinds[p] == USE && reachedAt[p] && (surelyAt[p] & variableBit(p)) == 0;
    }

    private boolean isIdleSet(int p) {
        return kinds[p] == SET && reachedAt[p] && (wantedBehind(p) & variableBit(p)) == 0;
    }

    private int variableBit(int p) {
        return 1 << variables[p];
    }

    // Done at each change of the program, so that the asking calls only read.
    private void analyse() {
        wellFormed = matchTokens();
        if (wellFormed) {
            findWays();
            findReached();
            findSurely();
            findWanted();
        }
    }

    private boolean matchTokens() {
        innermostOpen = NONE;
        innermostLoop = NONE;
        for (int p = 0; p < size; p++) {
            if (!matchToken(p)) {
                return false;
            }
        }
        return innermostOpen == NONE;
    }

    private boolean matchToken(int p) {
        switch (kinds[p]) {
            case IF:
            case LOOP:
            case ALWAYS:
                open(p);
                return true;
            case ELSE:
                return matchElse(p);
            case END:
                return matchEnd(p);
            case BREAK:
            case CONTINUE:
                begins[p] = innermostLoop;
                return innermostLoop != NONE;
            default:
                return true;
        }
    }

    private void open(int p) {
        elses[p] = NONE;
        outerOpen[p] = innermostOpen;
        outerLoop[p] = innermostLoop;
        innermostOpen = p;
        if (kinds[p] != IF) {
            innermostLoop = p;
        }
    }

    private boolean matchElse(int p) {
        int begin = innermostOpen;
        if (begin == NONE || kinds[begin] != IF || elses[begin] != NONE) {
            return false;
        }
        begins[p] = begin;
        elses[begin] = p;
        return true;
    }

    private boolean matchEnd(int p) {
        int begin = innermostOpen;
        if (begin == NONE) {
            return false;
        }
        begins[p] = begin;
        ends[begin] = p;
        innermostOpen = outerOpen[begin];
        innermostLoop = outerLoop[begin];
        return true;
    }

    private void findWays() {
        for (int p = 0; p < size; p++) {
            firstWay[p] = firstWayFrom(p);
            secondWay[p] = secondWayFrom(p);
        }
    }

    private int firstWayFrom(int p) {
        switch (kinds[p]) {
            case ELSE:
                return ends[begins[p]];
            case END:
                return kinds[begins[p]] == IF ? p + 1 : begins[p];
            case BREAK:
                return ends[begins[p]] + 1;
            case CONTINUE:
                return begins[p];
            case RETURN:
                return NONE;
            default:
                return p + 1;
        }
    }

    private int secondWayFrom(int p) {
        switch (kinds[p]) {
            case IF:
                return elses[p] == NONE ? ends[p] : elses[p] + 1;
            case LOOP:
                return ends[p] + 1;
            default:
                return NONE;
        }
    }

    // Each round carries what is known at least one token further, and a way that comes to
    // no place twice has at most size steps: so size rounds are enough, here and below.
    private void findReached() {
        for (int p = 0; p <= size; p++) {
            reachedAt[p] = p == 0;
        }
        for (int round = 0; round < size; round++) {
            for (int p = 0; p < size; p++) {
                if (reachedAt[p]) {
                    markReached(firstWay[p]);
                    markReached(secondWay[p]);
                }
            }
        }
    }

    private void markReached(int place) {
        if (place != NONE) {
            reachedAt[place] = true;
        }
    }

    // Begins with all six everywhere but at the start, and only takes away what a run
    // lacks: so tokens that no run comes to keep all six.
    private void findSurely() {
        for (int p = 0; p <= size; p++) {
            surelyAt[p] = p == 0 ? 0 : ALL_VARIABLES;
        }
        for (int round = 0; round < size; round++) {
            for (int p = 0; p < size; p++) {
                int setBehind = surelyBehind(p);
                keepSurely(firstWay[p], setBehind);
                keepSurely(secondWay[p], setBehind);
            }
        }
    }

    private int surelyBehind(int p) {
        return kinds[p] == SET ? surelyAt[p] | variableBit(p) : surelyAt[p];
    }

    private void keepSurely(int place, int mask) {
        if (place != NONE) {
            surelyAt[place] &= mask;
        }
    }

    private void findWanted() {
        for (int p = 0; p <= size; p++) {
            wantedAt[p] = 0;
        }
        for (int round = 0; round < size; round++) {
            for (int p = size - 1; p >= 0; p--) {
                int behind = wantedBehind(p);
                wantedAt[p] = wantedBefore(p, behind);
            }
        }
    }

    private int wantedBefore(int p, int behind) {
        switch (kinds[p]) {
            case SET:
                return behind & ~variableBit(p);
            case USE:
                return behind | variableBit(p);
            default:
                return behind;
        }
    }

    private int wantedBehind(int p) {
        int first = wantedOf(firstWay[p]);
        int second = wantedOf(secondWay[p]);
        return first | second;
    }

    private int wantedOf(int place) {
        return place == NONE ? 0 : wantedAt[place];
    }
}
