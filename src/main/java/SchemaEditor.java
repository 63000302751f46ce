/**
 * An editor for documents with a schema. Numbers stand for everything: names, types, elements, attributes.
 *
 * A content model is held as an automaton. Its states are the POSITIONS of the model (each NAME token, once for
 * each copy that BOTH and TIMES make of it) and START; a set of states is an int with one bit for each. The weight
 * of a model is the number of its positions, so a model that isn't LARGE always has room here.
 */
public final class SchemaEditor {
    public static final int OK = 0, TYPELESS = 1, CONTENT = 2, VALUE = 3, ATTRIBUTE = 4, SYNTAX = 5, LARGE = 6, AMBIGUOUS = 7, BAD = -1;

    private static final int NONE = -1;
    private static final int NAMES = 6, TYPES = 6, ATTRIBUTES = 4, ELEMENTS = 24, TOKENS = 16, LISTABLE = 4;
    private static final int ROOT = 0;

    private static final int NAME = 0, SEQ = 1, CHOICE = 2, OPTION = 3, STAR = 4, PLUS = 5, NOTHING = 6, BOTH = 7, TIMES = 8;
    private static final int UNDEFINED = 0, SIMPLE = 1, COMPLEX = 2;
    private static final int ABSENT = 0, REQUIRED = 2;

    private static final int POSITIONS = 30, START = 30, STATES = 31;
    /** The automaton of the draft lies behind those of the types. */
    private static final int DRAFT = TYPES;
    private static final int AUTOMATA = TYPES + 1;
    /** Each round but the last finds a pair of states, so that more rounds can't be needed. */
    private static final int ROUNDS = STATES * STATES + 1;
    /** BOTH and TIMES put up to two copies on top of what the tokens themselves can pile up. */
    private static final int FRAGMENTS = TOKENS + 2;

    private static final int FOLLOW_CELLS = AUTOMATA * STATES, BEARING_CELLS = AUTOMATA * NAMES;
    private static final int LISTED_CELLS = TYPES * LISTABLE, USE_CELLS = TYPES * ATTRIBUTES;
    private static final int KID_CELLS = ELEMENTS * ELEMENTS, ATTRIBUTE_CELLS = ELEMENTS * ATTRIBUTES;

    private final int[] draftKind = new int[TOKENS];
    private final int[] draftValue = new int[TOKENS];
    private int drafted = 0;
    private int latestPlace = NONE;

    private final int[] weights = new int[TOKENS];
    private final int[] tokenAt = new int[POSITIONS];
    private int positions = 0;
    private final int[] fragmentBegin = new int[FRAGMENTS];
    private final int[] fragmentFirst = new int[FRAGMENTS];
    private final int[] fragmentLast = new int[FRAGMENTS];
    private final boolean[] fragmentEmpty = new boolean[FRAGMENTS];
    private int fragments = 0;
    private final int[] reachedWith = new int[STATES];

    private final int[] follow = new int[FOLLOW_CELLS];
    private final int[] bearing = new int[BEARING_CELLS];
    private final int[] accepting = new int[AUTOMATA];

    private final int[] kindOfType = new int[TYPES];
    private final int[] leastOf = new int[TYPES];
    private final int[] greatestOf = new int[TYPES];
    private final int[] listedCount = new int[TYPES];
    private final int[] listedValue = new int[LISTED_CELLS];
    private final int[] attributeUse = new int[USE_CELLS];
    private final int[] attributeType = new int[USE_CELLS];
    private final int[] typeOfName = new int[NAMES];

    private final boolean[] inUse = new boolean[ELEMENTS];
    private final int[] nameOf = new int[ELEMENTS];
    private final int[] parentOf = new int[ELEMENTS];
    private final int[] kidCount = new int[ELEMENTS];
    private final int[] kids = new int[KID_CELLS];
    private final boolean[] hasValue = new boolean[ELEMENTS];
    private final int[] valueOf = new int[ELEMENTS];
    private final boolean[] hasAttribute = new boolean[ATTRIBUTE_CELLS];
    private final int[] attributeValue = new int[ATTRIBUTE_CELLS];
    private int elementCount = 0;
    private final int[] walked = new int[ELEMENTS];
    private final int[] waiting = new int[ELEMENTS];

    public SchemaEditor() {
        for (int n = 0; n < NAMES; n++) {
            typeOfName[n] = NONE;
        }
    }

    // ---- The schema

    public boolean token(int kind, int value) {
        if (drafted >= TOKENS || !isToken(kind, value)) {
            return false;
        }
        draftKind[drafted] = kind;
        draftValue[drafted] = value;
        drafted++;
        return true;
    }

    public int model(int t) {
        if (!isType(t)) {
            return BAD;
        }
        int answer = judgeDraft();
        if (answer == OK) {
            adoptDraft(t);
        }
        drafted = 0;
        return answer;
    }

    public int place() {
        return latestPlace;
    }

    public int simple(int t, int least, int greatest) {
        if (!isType(t)) {
            return BAD;
        }
        kindOfType[t] = SIMPLE;
        leastOf[t] = least;
        greatestOf[t] = greatest;
        listedCount[t] = 0;
        return OK;
    }

    public int listed(int t, int v) {
        if (!isOfKind(t, SIMPLE) || listedCount[t] >= LISTABLE || isListed(t, v)) {
            return BAD;
        }
        listedValue[t * LISTABLE + listedCount[t]] = v;
        listedCount[t]++;
        return OK;
    }

    public int attribute(int t, int a, int use, int s) {
        if (!isOfKind(t, COMPLEX) || !isAttribute(a) || use < ABSENT || use > REQUIRED || !isType(s)) {
            return BAD;
        }
        attributeUse[t * ATTRIBUTES + a] = use;
        attributeType[t * ATTRIBUTES + a] = s;
        return OK;
    }

    public int element(int n, int t) {
        if (!isName(n) || (t != NONE && !isType(t))) {
            return BAD;
        }
        typeOfName[n] = t;
        return OK;
    }

    // ---- The document

    public int insert(int e, int k, int n) {
        if (!isName(n)) {
            return BAD;
        }
        if (elementCount == 0) {
            return newElement(n);
        }
        if (elementCount >= ELEMENTS || !isElement(e) || k < 0 || k > kidCount[e]) {
            return BAD;
        }
        int made = newElement(n);
        attach(made, e, k);
        return made;
    }

    public int remove(int e) {
        if (!isElement(e)) {
            return BAD;
        }
        detach(e);
        int gone = walk(e);
        for (int i = 0; i < gone; i++) {
            inUse[walked[i]] = false;
        }
        elementCount -= gone;
        return gone;
    }

    public int move(int e, int p, int k) {
        if (!isElement(e) || !isElement(p) || isWithin(p, e)) {
            return BAD;
        }
        int others = parentOf[e] == p ? kidCount[p] - 1 : kidCount[p];
        if (k < 0 || k > others) {
            return BAD;
        }
        detach(e);
        attach(e, p, k);
        return OK;
    }

    public int rename(int e, int n) {
        if (!isElement(e) || !isName(n)) {
            return BAD;
        }
        nameOf[e] = n;
        return OK;
    }

    public int value(int e, boolean has, int v) {
        if (!isElement(e)) {
            return BAD;
        }
        hasValue[e] = has;
        valueOf[e] = v;
        return OK;
    }

    public int set(int e, int a, boolean has, int v) {
        if (!isElement(e) || !isAttribute(a)) {
            return BAD;
        }
        hasAttribute[e * ATTRIBUTES + a] = has;
        attributeValue[e * ATTRIBUTES + a] = v;
        return OK;
    }

    // ---- What is told of the document

    public int status(int e) {
        return isElement(e) ? statusOf(e) : BAD;
    }

    public int check(int what) {
        if (what == 2) {
            return elementCount;
        }
        if (what != 0 && what != 1) {
            return BAD;
        }
        int count = elementCount == 0 ? 0 : walk(ROOT);
        int wrong = 0;
        int first = NONE;
        for (int i = 0; i < count; i++) {
            if (statusOf(walked[i]) != OK) {
                first = wrong == 0 ? walked[i] : first;
                wrong++;
            }
        }
        return what == 0 ? wrong : first;
    }

    public int may(int e, int k) {
        int t = complexTypeOf(e);
        if (t == NONE || k < 0 || k > kidCount[e]) {
            return 0;
        }
        int before = afterKids(t, 1 << START, e, 0, k);
        int names = 0;
        for (int n = 0; n < NAMES; n++) {
            int with = step(t, before, n);
            int end = afterKids(t, with, e, k, kidCount[e]);
            if ((end & accepting[t]) != 0) {
                names |= 1 << n;
            }
        }
        return names;
    }

    public int fitting(int e) {
        int t = complexTypeOf(e);
        if (t == NONE) {
            return NONE;
        }
        int states = 1 << START;
        for (int k = 0; k < kidCount[e]; k++) {
            states = step(t, states, nameOf[kids[e * ELEMENTS + k]]);
            // A word can be reached from every state, so only the empty set fits no word's beginning.
            if (states == 0) {
                return k;
            }
        }
        return kidCount[e];
    }

    public int missing(int e) {
        int t = complexTypeOf(e);
        if (t == NONE) {
            return NONE;
        }
        int states = afterKids(t, 1 << START, e, 0, kidCount[e]);
        // A shortest way passes no state twice, so it has fewer steps than there are states.
        for (int added = 0; added < STATES; added++) {
            if ((states & accepting[t]) != 0) {
                return added;
            }
            states = followers(t, states);
        }
        return NONE;
    }

    public int child(int e, int k) {
        return isElement(e) && k >= 0 && k < kidCount[e] ? kids[e * ELEMENTS + k] : NONE;
    }

    // ---- What a number may be

    private static boolean isName(int n) {
        return n >= 0 && n < NAMES;
    }

    private static boolean isType(int t) {
        return t >= 0 && t < TYPES;
    }

    private static boolean isAttribute(int a) {
        return a >= 0 && a < ATTRIBUTES;
    }

    private boolean isOfKind(int t, int kind) {
        return isType(t) && kindOfType[t] == kind;
    }

    private boolean isElement(int e) {
        return e >= 0 && e < ELEMENTS && inUse[e];
    }

    private static boolean isToken(int kind, int value) {
        if (kind == NAME) {
            return isName(value);
        }
        if (kind == TIMES) {
            return value >= 0 && leastTimes(value) <= 3 && mostTimes(value) >= 1 && leastTimes(value) <= mostTimes(value);
        }
        return kind >= NAME && kind <= TIMES;
    }

    private static int leastTimes(int value) {
        return value >> 2;
    }

    private static int mostTimes(int value) {
        return value & 3;
    }

    private static int partsOf(int kind) {
        if (kind == NAME || kind == NOTHING) {
            return 0;
        }
        return kind == SEQ || kind == CHOICE || kind == BOTH ? 2 : 1;
    }

    // ---- The draft of a model

    private int judgeDraft() {
        if (!isOneExpression()) {
            return SYNTAX;
        }
        if (draftWeight() > POSITIONS) {
            return LARGE;
        }
        buildAutomaton();
        pairStates();
        int least = leastDoubtfulToken();
        if (least == NONE) {
            return OK;
        }
        latestPlace = least;
        return AMBIGUOUS;
    }

    private boolean isOneExpression() {
        int wanted = 1;
        for (int i = 0; i < drafted; i++) {
            if (wanted == 0) {
                return false;
            }
            wanted += partsOf(draftKind[i]) - 1;
        }
        return wanted == 0;
    }

    /** Read from the right, the parts of each token lie on top of the pile. 16 tokens weigh at most 3 to the 15th. */
    private int draftWeight() {
        int top = NONE;
        for (int i = drafted - 1; i >= 0; i--) {
            int kind = draftKind[i];
            if (partsOf(kind) == 0) {
                top++;
                weights[top] = kind == NAME ? 1 : 0;
            } else if (partsOf(kind) == 2) {
                top--;
                int both = weights[top] + weights[top + 1];
                weights[top] = kind == BOTH ? 2 * both : both;
            } else if (kind == TIMES) {
                weights[top] = mostTimes(draftValue[i]) * weights[top];
            }
        }
        return weights[0];
    }

    private void adoptDraft(int t) {
        for (int s = 0; s < STATES; s++) {
            follow[t * STATES + s] = follow[DRAFT * STATES + s];
        }
        for (int n = 0; n < NAMES; n++) {
            bearing[t * NAMES + n] = bearing[DRAFT * NAMES + n];
        }
        accepting[t] = accepting[DRAFT];
        for (int a = 0; a < ATTRIBUTES; a++) {
            attributeUse[t * ATTRIBUTES + a] = ABSENT;
        }
        kindOfType[t] = COMPLEX;
    }

    // ---- The automaton of the draft
    //
    // A fragment is a part of the model that has been read: its positions are those from its begin up to the
    // begin of the fragment above it, its first and last ones are sets, and it may be empty or not.

    private void buildAutomaton() {
        clearAutomaton();
        for (int i = drafted - 1; i >= 0; i--) {
            int kind = draftKind[i];
            int parts = partsOf(kind);
            if (parts == 0) {
                pushLeaf(i);
            } else if (parts == 2) {
                joinTopTwo(kind);
            } else if (kind == TIMES) {
                copyInARow(draftValue[i]);
            } else {
                repeatTop(kind);
            }
        }
        follow[DRAFT * STATES + START] = fragmentFirst[0];
        accepting[DRAFT] = fragmentLast[0] | (fragmentEmpty[0] ? 1 << START : 0);
        for (int p = 0; p < positions; p++) {
            bearing[DRAFT * NAMES + draftValue[tokenAt[p]]] |= 1 << p;
        }
    }

    private void clearAutomaton() {
        positions = 0;
        fragments = 0;
        for (int n = 0; n < NAMES; n++) {
            bearing[DRAFT * NAMES + n] = 0;
        }
        for (int s = 0; s < STATES; s++) {
            follow[DRAFT * STATES + s] = 0;
        }
    }

    private void pushLeaf(int i) {
        boolean isNothing = draftKind[i] == NOTHING;
        int alone = isNothing ? 0 : 1 << positions;
        fragmentBegin[fragments] = positions;
        fragmentFirst[fragments] = alone;
        fragmentLast[fragments] = alone;
        fragmentEmpty[fragments] = isNothing;
        fragments++;
        if (!isNothing) {
            tokenAt[positions] = i;
            positions++;
        }
    }

    private void repeatTop(int kind) {
        int top = fragments - 1;
        if (kind == STAR || kind == PLUS) {
            link(fragmentLast[top], fragmentFirst[top]);
        }
        if (kind == STAR || kind == OPTION) {
            fragmentEmpty[top] = true;
        }
    }

    private void copyInARow(int value) {
        int top = fragments - 1;
        int least = leastTimes(value);
        int most = mostTimes(value);
        for (int copy = 1; copy < most; copy++) {
            pushCopy(top);
        }
        for (int copy = least; copy < most; copy++) {
            fragmentEmpty[top + copy] = true;
        }
        for (int copy = most - 1; copy >= 1; copy--) {
            chain(top + copy - 1, top + copy, top + copy - 1);
        }
        fragments = top + 1;
    }

    /** The draft is read from the right, so the second part of a token lies below its first one. */
    private void joinTopTwo(int kind) {
        int first = fragments - 1;
        int second = fragments - 2;
        if (kind == SEQ) {
            chain(first, second, second);
        } else if (kind == CHOICE) {
            unite(second, first);
        } else {
            pushCopy(second);
            pushCopy(first);
            chain(first, second, second);
            chain(first + 1, first + 2, first + 1);
            unite(second, first + 1);
        }
        fragments = second + 1;
    }

    private void pushCopy(int f) {
        int begin = fragmentBegin[f];
        int end = f + 1 < fragments ? fragmentBegin[f + 1] : positions;
        int shift = positions - begin;
        fragmentBegin[fragments] = positions;
        fragmentFirst[fragments] = fragmentFirst[f] << shift;
        fragmentLast[fragments] = fragmentLast[f] << shift;
        fragmentEmpty[fragments] = fragmentEmpty[f];
        fragments++;
        for (int p = begin; p < end; p++) {
            tokenAt[p + shift] = tokenAt[p];
            follow[DRAFT * STATES + p + shift] = follow[DRAFT * STATES + p] << shift;
        }
        positions += end - begin;
    }

    private void chain(int head, int tail, int into) {
        link(fragmentLast[head], fragmentFirst[tail]);
        int first = fragmentFirst[head] | (fragmentEmpty[head] ? fragmentFirst[tail] : 0);
        int last = fragmentLast[tail] | (fragmentEmpty[tail] ? fragmentLast[head] : 0);
        fragmentFirst[into] = first;
        fragmentLast[into] = last;
        fragmentEmpty[into] = fragmentEmpty[head] && fragmentEmpty[tail];
    }

    private void unite(int into, int other) {
        fragmentFirst[into] |= fragmentFirst[other];
        fragmentLast[into] |= fragmentLast[other];
        fragmentEmpty[into] = fragmentEmpty[into] || fragmentEmpty[other];
    }

    private void link(int lasts, int firsts) {
        for (int p = 0; p < POSITIONS; p++) {
            if ((lasts >> p & 1) != 0) {
                follow[DRAFT * STATES + p] |= firsts;
            }
        }
    }

    // ---- Whether the draft is ambiguous

    /**
     * Finds, for each state, the states that the same row of names can lead to. Comparing the followers of single
     * states wouldn't do: two copies of one NAME are no doubt themselves, but what comes behind them may be.
     */
    private void pairStates() {
        for (int s = 0; s < STATES; s++) {
            reachedWith[s] = 0;
        }
        reachedWith[START] = 1 << START;
        boolean grown = true;
        for (int round = 0; grown && round < ROUNDS; round++) {
            grown = false;
            for (int s = 0; s < STATES; s++) {
                boolean more = spreadPairs(s);
                grown = grown || more;
            }
        }
    }

    private boolean spreadPairs(int s) {
        int next = follow[DRAFT * STATES + s];
        int others = followers(DRAFT, reachedWith[s]);
        boolean grown = false;
        for (int p = 0; p < positions; p++) {
            if ((next >> p & 1) != 0) {
                int same = others & bearing[DRAFT * NAMES + draftValue[tokenAt[p]]];
                grown = grown || (same & ~reachedWith[p]) != 0;
                reachedWith[p] |= same;
            }
        }
        return grown;
    }

    private int leastDoubtfulToken() {
        int least = NONE;
        for (int p = 0; p < positions; p++) {
            for (int q = 0; q < positions; q++) {
                boolean doubtful = (reachedWith[p] >> q & 1) != 0 && tokenAt[p] != tokenAt[q];
                if (doubtful && (least == NONE || tokenAt[p] < least)) {
                    least = tokenAt[p];
                }
            }
        }
        return least;
    }

    // ---- Running an automaton

    private int followers(int automaton, int states) {
        int next = 0;
        for (int s = 0; s < STATES; s++) {
            if ((states >> s & 1) != 0) {
                next |= follow[automaton * STATES + s];
            }
        }
        return next;
    }

    private int step(int t, int states, int n) {
        return followers(t, states) & bearing[t * NAMES + n];
    }

    private int afterKids(int t, int states, int e, int from, int to) {
        int reached = states;
        for (int k = from; k < to; k++) {
            reached = step(t, reached, nameOf[kids[e * ELEMENTS + k]]);
        }
        return reached;
    }

    // ---- An element and its type

    private int complexTypeOf(int e) {
        if (!isElement(e)) {
            return NONE;
        }
        int t = typeOfName[nameOf[e]];
        return isOfKind(t, COMPLEX) ? t : NONE;
    }

    private int statusOf(int e) {
        int t = typeOfName[nameOf[e]];
        if (t == NONE || kindOfType[t] == UNDEFINED) {
            return TYPELESS;
        }
        if (!contentFits(e, t)) {
            return CONTENT;
        }
        if (!valueFits(e, t)) {
            return VALUE;
        }
        for (int a = 0; a < ATTRIBUTES; a++) {
            if (!attributeFits(e, t, a)) {
                return ATTRIBUTE;
            }
        }
        return OK;
    }

    private boolean contentFits(int e, int t) {
        if (kindOfType[t] == SIMPLE) {
            return kidCount[e] == 0;
        }
        int end = afterKids(t, 1 << START, e, 0, kidCount[e]);
        return (end & accepting[t]) != 0;
    }

    private boolean valueFits(int e, int t) {
        if (kindOfType[t] == COMPLEX) {
            return !hasValue[e];
        }
        return hasValue[e] && isOfSimple(t, valueOf[e]);
    }

    private boolean attributeFits(int e, int t, int a) {
        boolean has = hasAttribute[e * ATTRIBUTES + a];
        if (kindOfType[t] == SIMPLE) {
            return !has;
        }
        int use = attributeUse[t * ATTRIBUTES + a];
        if (!has || use == ABSENT) {
            return !has && use != REQUIRED;
        }
        int s = attributeType[t * ATTRIBUTES + a];
        return kindOfType[s] == SIMPLE && isOfSimple(s, attributeValue[e * ATTRIBUTES + a]);
    }

    private boolean isOfSimple(int t, int v) {
        return v >= leastOf[t] && v <= greatestOf[t] && (listedCount[t] == 0 || isListed(t, v));
    }

    private boolean isListed(int t, int v) {
        for (int i = 0; i < listedCount[t]; i++) {
            if (listedValue[t * LISTABLE + i] == v) {
                return true;
            }
        }
        return false;
    }

    // ---- The tree

    private int newElement(int n) {
        int e = 0;
        while (e < ELEMENTS - 1 && inUse[e]) {
            e++;
        }
        inUse[e] = true;
        nameOf[e] = n;
        parentOf[e] = NONE;
        kidCount[e] = 0;
        hasValue[e] = false;
        for (int a = 0; a < ATTRIBUTES; a++) {
            hasAttribute[e * ATTRIBUTES + a] = false;
        }
        elementCount++;
        return e;
    }

    private void attach(int e, int p, int k) {
        for (int i = kidCount[p]; i > k; i--) {
            kids[p * ELEMENTS + i] = kids[p * ELEMENTS + i - 1];
        }
        kids[p * ELEMENTS + k] = e;
        kidCount[p]++;
        parentOf[e] = p;
    }

    private void detach(int e) {
        int p = parentOf[e];
        if (p == NONE) {
            return;
        }
        int kept = 0;
        for (int i = 0; i < kidCount[p]; i++) {
            int kid = kids[p * ELEMENTS + i];
            if (kid != e) {
                kids[p * ELEMENTS + kept] = kid;
                kept++;
            }
        }
        kidCount[p] = kept;
        parentOf[e] = NONE;
    }

    private boolean isWithin(int inner, int outer) {
        int at = inner;
        for (int up = 0; at != NONE && up < ELEMENTS; up++) {
            if (at == outer) {
                return true;
            }
            at = parentOf[at];
        }
        return false;
    }

    /** Writes top and all below it to walked, parents before children; answers how many they are. */
    private int walk(int top) {
        int seen = 0;
        int left = 1;
        waiting[0] = top;
        while (left > 0 && seen < ELEMENTS) {
            left--;
            int e = waiting[left];
            walked[seen] = e;
            seen++;
            for (int k = kidCount[e] - 1; k >= 0; k--) {
                waiting[left] = kids[e * ELEMENTS + k];
                left++;
            }
        }
        return seen;
    }
}
