/**
 * A protocol for three roles, and runs of it in which messages are on their way for some time.
 *
 * The path of a run is never written down. Each role has its own place in the protocol and passes
 * over the messages that are not its own; at a choose it learns the branch from the message that it
 * receives there. This suffices because a choose concerns every role, and because the messages
 * between two roles are sent and received in the same order, that of the path.
 */
public final class ProtocolRoles {
    public static final int BAD_ARG = -1;
    public static final int FULL = -2;
    public static final int TOO_FEW = -3;
    public static final int NONE = -4;
    public static final int BAD_LOOP = -5;
    public static final int OVER = 0;
    public static final int MAY_SEND = 1;
    public static final int HELD = 2;
    public static final int MAY_RECEIVE = 3;
    public static final int WAITS = 4;

    private static final int ROLES = 3;
    private static final int LABELS = 4;
    private static final int MAX_TERMS = 20;
    private static final int CAPACITY = 4;
    private static final int CHANNELS = 9;
    private static final int SLOTS = 36;

    private static final int END = 0;
    private static final int MESSAGE = 1;
    private static final int CHOOSE = 2;
    private static final int LOOP = 3;
    private static final int AGAIN = 4;

    private static final int NOWHERE = -1;
    private static final int NOT_PICKED = -1;

    // The terms made since the stack was last emptied, apart from the protocol's own, because a run
    // goes on while the next protocol is put together. "Number" is a message's label or a loop's t.
    private final int[] draftKind = new int[MAX_TERMS];
    private final int[] draftFrom = new int[MAX_TERMS];
    private final int[] draftTo = new int[MAX_TERMS];
    private final int[] draftNumber = new int[MAX_TERMS];
    private final int[] draftFirst = new int[MAX_TERMS];
    private final int[] draftSecond = new int[MAX_TERMS];
    private final int[] draftParent = new int[MAX_TERMS];
    private int draftCount = 0;
    private final int[] stack = new int[MAX_TERMS];
    private int stackCount = 0;

    // The terms of the protocol. "First" is where the walk goes on (a choose: if 0 is picked); an
    // again goes on with its loop, an end with itself, so that every term has a following one.
    private final int[] kind = new int[MAX_TERMS];
    private final int[] from = new int[MAX_TERMS];
    private final int[] to = new int[MAX_TERMS];
    private final int[] number = new int[MAX_TERMS];
    private final int[] first = new int[MAX_TERMS];
    private final int[] second = new int[MAX_TERMS];
    private int termCount = 1;
    private int root = 0;

    // The run. "Picked" is what a role has picked while it still has to tell the second role.
    private final int[] place = new int[ROLES];
    private final int[] picked = new int[ROLES];
    private final int[] lastGot = new int[ROLES];
    private int sentCount = 0;
    private int walkedFrom = 0;

    // The messages on their way, in a ring of slots for each pair of roles.
    private final int[] oldest = new int[CHANNELS];
    private final int[] waiting = new int[CHANNELS];
    private final int[] slotLabel = new int[SLOTS];
    private final int[] slotValue = new int[SLOTS];

    public ProtocolRoles() {
        kind[0] = END;
        beginRun();
    }

    public int end() {
        return pushTerm(END, 0, 0, 0, 0);
    }

    public int message(int p, int q, int l) {
        if (!isRole(p) || !isRole(q) || p == q || l < 0 || l >= LABELS) {
            return BAD_ARG;
        }
        return pushTerm(MESSAGE, p, q, l, 1);
    }

    public int choose(int p) {
        if (!isRole(p)) {
            return BAD_ARG;
        }
        return pushTerm(CHOOSE, p, 0, 0, 2);
    }

    public int loop(int t) {
        if (!isZeroOrOne(t)) {
            return BAD_ARG;
        }
        return pushTerm(LOOP, 0, 0, t, 1);
    }

    public int again(int t) {
        if (!isZeroOrOne(t)) {
            return BAD_ARG;
        }
        return pushTerm(AGAIN, 0, 0, t, 0);
    }

    public int discard() {
        int held = stackCount;
        emptyStack();
        return held;
    }

    public int protocol() {
        if (stackCount != 1) {
            return TOO_FEW;
        }
        if (!everyAgainHasItsLoop()) {
            return BAD_LOOP;
        }
        takeOverDraft();
        emptyStack();
        beginRun();
        return termCount;
    }

    public void restart() {
        beginRun();
    }

    public int send(int role, int pick, int value) {
        if (!isRole(role)) {
            return BAD_ARG;
        }
        int term = nextTerm(role);
        if (term == NOWHERE || situation(term, role) != MAY_SEND) {
            return NONE;
        }
        boolean picking = kind[term] == CHOOSE && picked[role] == NOT_PICKED;
        if (picking && !isZeroOrOne(pick)) {
            return BAD_ARG;
        }
        int label = picking ? pick : labelToSend(term, role);
        int receiver = otherSide(term, role);
        putOnWay(role, receiver, label, value);
        if (picking) {
            picked[role] = pick;
            walkedFrom = following(term, pick);
        } else {
            goOn(role, term, label);
        }
        return label;
    }

    public int receive(int role) {
        if (!isRole(role)) {
            return BAD_ARG;
        }
        int term = nextTerm(role);
        if (term == NOWHERE || situation(term, role) != MAY_RECEIVE) {
            return NONE;
        }
        int label = takeOffWay(from[term], role);
        goOn(role, term, label);
        return label;
    }

    public int got(int role) {
        return isRole(role) ? lastGot[role] : BAD_ARG;
    }

    public int state(int role) {
        if (!isRole(role)) {
            return BAD_ARG;
        }
        int term = nextTerm(role);
        return term == NOWHERE ? OVER : situation(term, role);
    }

    public int partner(int role) {
        if (!isRole(role)) {
            return BAD_ARG;
        }
        int term = nextTerm(role);
        return term == NOWHERE ? NONE : otherSide(term, role);
    }

    public int onWay(int p, int q) {
        if (!isRole(p) || !isRole(q)) {
            return BAD_ARG;
        }
        return waiting[p * ROLES + q];
    }

    public int sent() {
        return sentCount;
    }

    // A run never gets stuck: the earliest message of the path that is not done can always be sent
    // or received. So it can finish just if some picks lead the walk to an end.
    public int canFinish() {
        int reached = 1 << walkedFrom;
        for (int round = 0; round < MAX_TERMS; round++) {
            for (int term = 0; term < termCount; term++) {
                if ((reached >> term & 1) == 1) {
                    if (kind[term] == END) {
                        return 1;
                    }
                    reached |= 1 << first[term] | 1 << second[term];
                }
            }
        }
        return 0;
    }

    private static boolean isRole(int role) {
        return role >= 0 && role < ROLES;
    }

    private static boolean isZeroOrOne(int n) {
        return n == 0 || n == 1;
    }

    private int pushTerm(int newKind, int sender, int receiver, int newNumber, int parts) {
        if (draftCount >= MAX_TERMS) {
            return FULL;
        }
        if (stackCount < parts) {
            return TOO_FEW;
        }
        int term = draftCount;
        draftCount++;
        stackCount -= parts;
        draftKind[term] = newKind;
        draftFrom[term] = sender;
        draftTo[term] = receiver;
        draftNumber[term] = newNumber;
        draftFirst[term] = parts > 0 ? stack[stackCount] : term;
        draftSecond[term] = parts > 1 ? stack[stackCount + 1] : draftFirst[term];
        draftParent[draftFirst[term]] = term;
        draftParent[draftSecond[term]] = term;
        draftParent[term] = NOWHERE;
        stack[stackCount] = term;
        stackCount++;
        return stackCount;
    }

    private void emptyStack() {
        stackCount = 0;
        draftCount = 0;
    }

    private boolean everyAgainHasItsLoop() {
        for (int term = 0; term < draftCount; term++) {
            if (draftKind[term] == AGAIN && loopOf(term) == NOWHERE) {
                return false;
            }
        }
        return true;
    }

    /** The nearest loop around the term again, or NOWHERE if that again is a bad one. */
    private int loopOf(int againTerm) {
        boolean actionBetween = false;
        int term = draftParent[againTerm];
        for (int step = 0; step < MAX_TERMS && term != NOWHERE; step++) {
            if (draftKind[term] == LOOP && draftNumber[term] == draftNumber[againTerm]) {
                return actionBetween ? term : NOWHERE;
            }
            if (draftKind[term] == MESSAGE || draftKind[term] == CHOOSE) {
                actionBetween = true;
            }
            term = draftParent[term];
        }
        return NOWHERE;
    }

    private void takeOverDraft() {
        for (int term = 0; term < draftCount; term++) {
            kind[term] = draftKind[term];
            from[term] = draftFrom[term];
            to[term] = draftTo[term];
            number[term] = draftNumber[term];
            first[term] = draftFirst[term];
            second[term] = draftSecond[term];
            if (draftKind[term] == AGAIN) {
                first[term] = loopOf(term);
                second[term] = first[term];
            }
        }
        termCount = draftCount;
        root = stack[0];
    }

    private void beginRun() {
        for (int role = 0; role < ROLES; role++) {
            place[role] = root;
            picked[role] = NOT_PICKED;
            lastGot[role] = 0;
        }
        for (int channel = 0; channel < CHANNELS; channel++) {
            oldest[channel] = 0;
            waiting[channel] = 0;
        }
        sentCount = 0;
        walkedFrom = root;
    }

    /**
     * The term of the role's next action, or the choose that it waits for. NOWHERE if the role is
     * over: after as many steps as there can be terms the walk is at an end or goes round without it.
     */
    private int nextTerm(int role) {
        int term = place[role];
        for (int step = 0; step < MAX_TERMS; step++) {
            if (concerns(term, role)) {
                return term;
            }
            term = first[term];
        }
        return NOWHERE;
    }

    private boolean concerns(int term, int role) {
        return kind[term] == CHOOSE
            || kind[term] == MESSAGE && (from[term] == role || to[term] == role);
    }

    // A choose that nobody has picked at needs no case of its own for those who wait: nothing is on
    // its way to them from the role that picks, as they have received all that came before.
    private int situation(int term, int role) {
        int other = otherSide(term, role);
        if (from[term] == role) {
            return waiting[role * ROLES + other] < CAPACITY ? MAY_SEND : HELD;
        }
        return waiting[other * ROLES + role] > 0 ? MAY_RECEIVE : WAITS;
    }

    private int otherSide(int term, int role) {
        if (from[term] != role) {
            return from[term];
        }
        if (kind[term] == MESSAGE) {
            return to[term];
        }
        return picked[role] == NOT_PICKED ? lesserOther(role) : greaterOther(role);
    }

    private static int lesserOther(int role) {
        return role == 0 ? 1 : 0;
    }

    private static int greaterOther(int role) {
        return role == 2 ? 1 : 2;
    }

    private int labelToSend(int term, int role) {
        return kind[term] == MESSAGE ? number[term] : picked[role];
    }

    private int following(int term, int label) {
        return kind[term] == CHOOSE && label == 1 ? second[term] : first[term];
    }

    private void goOn(int role, int term, int label) {
        place[role] = following(term, label);
        picked[role] = NOT_PICKED;
    }

    private void putOnWay(int sender, int receiver, int label, int value) {
        int channel = sender * ROLES + receiver;
        int slot = channel * CAPACITY + (oldest[channel] + waiting[channel]) % CAPACITY;
        slotLabel[slot] = label;
        slotValue[slot] = value;
        waiting[channel]++;
        sentCount++;
    }

    private int takeOffWay(int sender, int receiver) {
        int channel = sender * ROLES + receiver;
        int slot = channel * CAPACITY + oldest[channel];
        oldest[channel] = (oldest[channel] + 1) % CAPACITY;
        waiting[channel]--;
        lastGot[receiver] = slotValue[slot];
        return slotLabel[slot];
    }
}
