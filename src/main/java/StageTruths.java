/**
 * Stages of knowledge that only grows, claims that hold at them, a shelf of such claims and what
 * follows from what. The promises are in ../shared/DOC.md; how the parts fit together is told in
 * README.md.
 */
public final class StageTruths {
    public static final int UNKNOWN = -1;
    public static final int BAD_VALUE = -2;
    public static final int FULL = -3;
    public static final int NOT_POSSIBLE = -4;
    public static final int NONE = -5;

    private static final int FAULT_BASE = -100;
    private static final int MOST_STAGES = 8;
    private static final int FACTS = 4;
    private static final int PLACES = 5;
    private static final int MOST_STATES = 4;
    private static final int LONGEST_TEXT = 30;
    private static final int MOST_OPEN = 6;
    private static final int MOST_JOINED = 24;

    /** The signs of which claims are made; 0 to 3 are the facts, and up to NO all stand alone. */
    private static final int YES = 4;
    private static final int NO = 5;
    private static final int NOT = 6;
    private static final int AND = 7;
    private static final int OR = 8;
    private static final int IF = 9;
    /** Signs of texts alone. */
    private static final int OPEN = 10;
    private static final int CLOSE = 11;
    private static final int STRANGE = 12;

    private final State state = new State();
    private final State[] history = new State[MOST_STATES];
    private int recorded = 0;
    private final State snapshot = new State();
    private boolean hasSnapshot = false;
    private final Text text = new Text();
    private final Proof proof = new Proof();
    private final SmallModels models = proof.models;
    private final Parts parts = models.parts;

    public StageTruths() {
        for (int i = 0; i < MOST_STATES; i++) {
            history[i] = new State();
        }
    }

    // ---- stages

    public int addStage(int stage) {
        if (!state.isStage(stage)) {
            return UNKNOWN;
        }
        if (state.stages >= MOST_STAGES) {
            return FULL;
        }
        record();
        return state.grow(stage);
    }

    public int lead(int from, int to) {
        if (!state.isStage(from) || !state.isStage(to)) {
            return UNKNOWN;
        }
        if (to <= from) {
            return BAD_VALUE;
        }
        if (has(state.later[from], to)) {
            return NONE;
        }
        record();
        int before = state.pairs();
        state.connect(from, to);
        return state.pairs() - before;
    }

    public int learn(int stage, int fact) {
        if (!state.isStage(stage) || !isFact(fact)) {
            return UNKNOWN;
        }
        if (has(state.facts[stage], fact)) {
            return NONE;
        }
        record();
        state.teach(state.later[stage], 1 << fact);
        return state.knowing(fact);
    }

    public int forget(int stage, int fact) {
        if (!state.isStage(stage) || !isFact(fact)) {
            return UNKNOWN;
        }
        if (!has(state.facts[stage], fact)) {
            return NONE;
        }
        record();
        state.unteach(state.earlier(stage), 1 << fact);
        return state.knowing(fact);
    }

    public int removeStage(int stage) {
        if (!state.isStage(stage)) {
            return UNKNOWN;
        }
        if (state.stages <= 1) {
            return NOT_POSSIBLE;
        }
        record();
        state.takeOut(stage);
        return state.stages;
    }

    public int shrink() {
        state.findLikes();
        int removed = state.stages - state.unlike();
        if (state.mergeLeadsBack()) {
            return NOT_POSSIBLE;
        }
        if (removed == 0) {
            return NONE;
        }
        record();
        state.merge();
        return removed;
    }

    // ---- the shelf

    public int put(int place) {
        if (!isPlace(place)) {
            return UNKNOWN;
        }
        int fault = text.readFault();
        if (fault >= 0) {
            return FAULT_BASE - fault;
        }
        Claim claim = text.made();
        Claim old = claimAt(place);
        if (old != null && claim.isSameAs(old)) {
            return NONE;
        }
        record();
        state.shelf[place] = claim;
        return stagesOf(place);
    }

    public int drop(int place) {
        if (claimAt(place) == null) {
            return UNKNOWN;
        }
        record();
        state.shelf[place] = null;
        return Integer.bitCount(state.filledPlaces());
    }

    public int join(int place, int one, int how, int other) {
        Claim first = claimAt(one);
        Claim second = claimAt(other);
        if (!isPlace(place) || first == null || second == null) {
            return UNKNOWN;
        }
        if (how < 0 || how > IF - AND) {
            return BAD_VALUE;
        }
        if (first.size + second.size + 1 > MOST_JOINED) {
            return NOT_POSSIBLE;
        }
        Claim claim = Claim.joined(first, second, AND + how);
        record();
        state.shelf[place] = claim;
        return stagesOf(place);
    }

    // ---- texts

    public int type(char character) {
        if (text.length >= LONGEST_TEXT) {
            return FULL;
        }
        text.append(character);
        return text.length;
    }

    public int clearText() {
        int length = text.length;
        text.length = 0;
        return length;
    }

    // ---- history

    public int undo() {
        if (recorded <= 0 || recorded > MOST_STATES) {
            return NONE;
        }
        recorded--;
        state.takeFrom(history[recorded]);
        return recorded;
    }

    public int keep() {
        snapshot.takeFrom(state);
        hasSnapshot = true;
        return state.stages;
    }

    public int restore() {
        if (!hasSnapshot) {
            return NONE;
        }
        record();
        state.takeFrom(snapshot);
        return state.stages;
    }

    // ---- stages, told

    public int stage(int stage, int what) {
        if (!state.isStage(stage)) {
            return UNKNOWN;
        }
        switch (what) {
            case 0:
                return state.later[stage];
            case 1:
                return state.earlier(stage);
            case 2:
                return state.facts[stage];
            case 3:
                state.findLikes();
                return state.like[stage];
            default:
                return BAD_VALUE;
        }
    }

    public int alike(int one, int other) {
        if (!state.isStage(one) || !state.isStage(other)) {
            return UNKNOWN;
        }
        state.findLikes();
        return truth(state.like[one] == state.like[other]);
    }

    // ---- claims, told

    public int claim(int place, int what) {
        Claim claim = claimAt(place);
        if (claim == null) {
            return UNKNOWN;
        }
        lookAt(1 << place);
        int stages = state.stagesWith(parts, parts.whole(place));
        switch (what) {
            case 0:
                return stages;
            case 1:
                return state.lowestOutside(stages);
            case 2:
                return claim.size;
            case 3:
                return parts.different();
            case 4:
                return parts.usedFacts();
            case 5:
                return truth(proof.isFound(0, place));
            case 6:
                return truth(models.entailsPlainly(0, place));
            case 7:
                return parts.depth(place);
            default:
                return BAD_VALUE;
        }
    }

    public int holds(int place, int stage) {
        if (claimAt(place) == null || !state.isStage(stage)) {
            return UNKNOWN;
        }
        return truth(has(stagesOf(place), stage));
    }

    public int follows(int premises, int place) {
        int error = questionError(premises, place);
        if (error != 0) {
            return error;
        }
        lookAt(premises | 1 << place);
        return truth(proof.isFound(premises, place));
    }

    public int followsPlainly(int premises, int place) {
        int error = questionError(premises, place);
        if (error != 0) {
            return error;
        }
        lookAt(premises | 1 << place);
        return truth(models.entailsPlainly(premises, place));
    }

    public int fewestStages(int premises, int place) {
        int error = questionError(premises, place);
        if (error != 0) {
            return error;
        }
        lookAt(premises | 1 << place);
        if (!models.entailsPlainly(premises, place)) {
            return 1;
        }
        if (models.refutesWithTwo(premises, place)) {
            return 2;
        }
        // No model refutes what follows: to prove that is less work than to try all with three stages.
        return !proof.isFound(premises, place) && models.refutesWithThree(premises, place) ? 3 : NONE;
    }

    public int fewestPremises(int premises, int place) {
        int error = questionError(premises, place);
        if (error != 0) {
            return error;
        }
        lookAt(premises | 1 << place);
        if (!proof.isFound(premises, place)) {
            return NOT_POSSIBLE;
        }
        for (int size = 0; size < PLACES; size++) {
            for (int some = 0; some < premises; some++) {
                if ((some & ~premises) == 0 && Integer.bitCount(some) == size && proof.isFound(some, place)) {
                    return some;
                }
            }
        }
        return premises;
    }

    public int relation(int one, int other) {
        if (claimAt(one) == null || claimAt(other) == null) {
            return UNKNOWN;
        }
        lookAt(1 << one | 1 << other);
        int forth = truth(proof.isFound(1 << one, other));
        int back = truth(proof.isFound(1 << other, one));
        return forth + 2 * back;
    }

    public int count(int what) {
        switch (what) {
            case 0:
                return state.stages;
            case 1:
                return state.pairs() - state.stages;
            case 2:
                return Integer.bitCount(state.filledPlaces());
            case 3:
                return state.lastStages();
            case 4:
                return state.firstStages();
            case 5:
                state.findLikes();
                return state.unlike();
            case 6:
                return state.commonFacts();
            case 7:
                return recorded;
            case 8:
                return text.length;
            default:
                return BAD_VALUE;
        }
    }

    // ---- inside

    private static boolean has(int bits, int number) {
        return (bits >> number & 1) != 0;
    }

    private static int truth(boolean it) {
        return it ? 1 : 0;
    }

    private static boolean isFact(int fact) {
        return fact >= 0 && fact < FACTS;
    }

    private static boolean isPlace(int place) {
        return place >= 0 && place < PLACES;
    }

    /** What a row has at an index, 0 outside of it. */
    private static int at(int[] row, int index) {
        return index >= 0 && index < row.length ? row[index] : 0;
    }

    private Claim claimAt(int place) {
        return isPlace(place) ? state.shelf[place] : null;
    }

    /** Records the state in the history; the row of the oldest state is used again. */
    private void record() {
        if (recorded >= MOST_STATES) {
            State oldest = history[0];
            for (int i = 1; i < MOST_STATES; i++) {
                history[i - 1] = history[i];
            }
            recorded = MOST_STATES - 1;
            history[recorded] = oldest;
        }
        history[recorded].takeFrom(state);
        recorded++;
    }

    /** The stages at which the claim of a place holds. */
    private int stagesOf(int place) {
        parts.take(state.shelf, 1 << place);
        return state.stagesWith(parts, parts.whole(place));
    }

    /** The error of a question about premises and a claim, 0 if there is none. */
    private int questionError(int premises, int place) {
        if (premises < 0 || premises >= 1 << PLACES || (premises & ~state.filledPlaces()) != 0) {
            return BAD_VALUE;
        }
        return claimAt(place) == null ? UNKNOWN : 0;
    }

    /** Takes the parts of the claims of some places, which questions are then asked about. */
    private void lookAt(int places) {
        parts.take(state.shelf, places);
        models.fillSingle();
        proof.startAnew();
    }

    /** What undo and restore bring back: the stages and the shelf. */
    private static final class State {
        int stages = 1;
        /** For each stage those to which it leads, itself too. */
        final int[] later = new int[MOST_STAGES];
        final int[] facts = new int[MOST_STAGES];
        final Claim[] shelf = new Claim[PLACES];
        /** For each stage the lowest one that is alike, as findLikes() found it. */
        final int[] like = new int[MOST_STAGES];
        private final int[] seen = new int[MOST_STAGES];
        private final int[] values = new int[Parts.MOST];

        State() {
            later[0] = 1;
        }

        void takeFrom(State other) {
            stages = other.stages;
            for (int i = 0; i < MOST_STAGES; i++) {
                later[i] = other.later[i];
                facts[i] = other.facts[i];
            }
            for (int i = 0; i < PLACES; i++) {
                shelf[i] = other.shelf[i];
            }
        }

        boolean isStage(int stage) {
            return stage >= 0 && stage < stages;
        }

        int all() {
            return (1 << stages) - 1;
        }

        int earlier(int stage) {
            int bits = 0;
            for (int i = 0; i < stages; i++) {
                bits |= (later[i] >> stage & 1) << i;
            }
            return bits;
        }

        int knowing(int fact) {
            int bits = 0;
            for (int i = 0; i < stages; i++) {
                bits |= (facts[i] >> fact & 1) << i;
            }
            return bits;
        }

        int filledPlaces() {
            int bits = 0;
            for (int i = 0; i < PLACES; i++) {
                bits |= shelf[i] == null ? 0 : 1 << i;
            }
            return bits;
        }

        /** How many pairs there are of which the one leads to the other, each stage with itself too. */
        int pairs() {
            int sum = 0;
            for (int i = 0; i < stages; i++) {
                sum += Integer.bitCount(later[i]);
            }
            return sum;
        }

        int lastStages() {
            int bits = 0;
            for (int i = 0; i < stages; i++) {
                bits |= later[i] == 1 << i ? 1 << i : 0;
            }
            return bits;
        }

        int firstStages() {
            int bits = 0;
            for (int i = 0; i < stages; i++) {
                bits |= earlier(i) == 1 << i ? 1 << i : 0;
            }
            return bits;
        }

        int commonFacts() {
            int bits = (1 << FACTS) - 1;
            for (int i = 0; i < stages; i++) {
                bits &= facts[i];
            }
            return bits;
        }

        /** Adds a stage behind one and returns its number; there must be room. */
        int grow(int stage) {
            int added = stages;
            int before = earlier(stage);
            for (int i = 0; i < added; i++) {
                later[i] |= has(before, i) ? 1 << added : 0;
            }
            later[added] = 1 << added;
            facts[added] = facts[stage];
            stages++;
            return added;
        }

        void connect(int from, int to) {
            int before = earlier(from);
            for (int i = 0; i < stages; i++) {
                later[i] |= has(before, i) ? later[to] : 0;
            }
            teach(later[to], facts[from]);
        }

        void teach(int which, int known) {
            for (int i = 0; i < stages; i++) {
                facts[i] |= has(which, i) ? known : 0;
            }
        }

        void unteach(int which, int unknown) {
            for (int i = 0; i < stages; i++) {
                facts[i] &= has(which, i) ? ~unknown : ~0;
            }
        }

        void takeOut(int stage) {
            for (int i = stage; i + 1 < stages; i++) {
                later[i] = later[i + 1];
                facts[i] = facts[i + 1];
            }
            stages--;
            int kept = (1 << stage) - 1;
            for (int i = 0; i < stages; i++) {
                later[i] = later[i] & kept | later[i] >> 1 & ~kept;
            }
        }

        /** Tells stages apart by their facts first, then again and again by what they lead to. */
        void findLikes() {
            for (int i = 0; i < stages; i++) {
                like[i] = 0;
                seen[i] = facts[i];
            }
            for (int round = 0; round < stages; round++) {
                // From above, as the lower ones must still be told as they were.
                for (int i = stages - 1; i >= 0; i--) {
                    like[i] = lowestSeenLike(i);
                }
                for (int i = 0; i < stages; i++) {
                    seen[i] = likesOf(later[i]);
                }
            }
        }

        private int lowestSeenLike(int stage) {
            for (int i = 0; i < stage; i++) {
                if (like[i] == like[stage] && seen[i] == seen[stage]) {
                    return i;
                }
            }
            return stage;
        }

        private int likesOf(int which) {
            int bits = 0;
            for (int i = 0; i < stages; i++) {
                bits |= has(which, i) ? 1 << like[i] : 0;
            }
            return bits;
        }

        int unlike() {
            int sum = 0;
            for (int i = 0; i < stages; i++) {
                sum += truth(like[i] == i);
            }
            return sum;
        }

        /** Whether a stage that a merge keeps would lead to one with a lower number. */
        boolean mergeLeadsBack() {
            for (int i = 0; i < stages; i++) {
                if (like[i] == i && (likesOf(later[i]) & (1 << i) - 1) != 0) {
                    return true;
                }
            }
            return false;
        }

        /** Keeps the lowest of the stages that findLikes() found alike. */
        void merge() {
            for (int i = 0; i < stages; i++) {
                later[i] = likesOf(later[i]);
            }
            for (int i = stages - 1; i >= 0; i--) {
                if (like[i] != i) {
                    takeOut(i);
                }
            }
        }

        /** The lowest stage that is not among some, NONE if all are. */
        int lowestOutside(int which) {
            for (int i = 0; i < stages; i++) {
                if (!has(which, i)) {
                    return i;
                }
            }
            return NONE;
        }

        /** The stages at which a part holds. */
        int stagesWith(Parts parts, int whole) {
            for (int part = 0; part < parts.size; part++) {
                int one = at(values, parts.left[part]);
                int other = at(values, parts.right[part]);
                int kind = parts.kinds[part];
                values[part] = kind < FACTS ? knowing(kind)
                    : kind == YES ? all()
                    : kind == NO ? 0
                    : kind == AND ? one & other
                    : kind == OR ? one | other
                    : stagesAlwaysOutside(one & ~other);
            }
            return at(values, whole);
        }

        /** The stages that lead to none of some. */
        private int stagesAlwaysOutside(int which) {
            int bits = 0;
            for (int i = 0; i < stages; i++) {
                bits |= (later[i] & which) == 0 ? 1 << i : 0;
            }
            return bits;
        }
    }

    /** A claim, never changed: its signs, those of the parts before the sign that joins them. */
    private static final class Claim {
        final int size;
        final int[] signs;

        Claim(int[] row, int length) {
            size = Math.max(0, Math.min(length, row.length));
            signs = new int[size];
            for (int i = 0; i < size; i++) {
                signs[i] = row[i];
            }
        }

        static Claim joined(Claim one, Claim other, int sign) {
            int[] row = new int[one.size + other.size + 1];
            for (int i = 0; i < row.length; i++) {
                row[i] = i < one.size ? one.signs[i] : i + 1 < row.length ? other.signs[i - one.size] : sign;
            }
            return new Claim(row, row.length);
        }

        /** The signs in this order can be read in one way only, so equal rows are the same claim. */
        boolean isSameAs(Claim other) {
            if (size != other.size) {
                return false;
            }
            for (int i = 0; i < size; i++) {
                if (signs[i] != other.signs[i]) {
                    return false;
                }
            }
            return true;
        }
    }

    /** The text that is typed, and its reading. */
    private static final class Text {
        int length = 0;
        private final int[] signs = new int[LONGEST_TEXT];
        /** The signs of the claim as far as it is read, and those that wait for a part behind them. */
        private final int[] read = new int[LONGEST_TEXT];
        private int readLength = 0;
        private final int[] waiting = new int[LONGEST_TEXT];
        private int waitingLength = 0;
        private int open = 0;

        void append(char character) {
            if (length < LONGEST_TEXT) {
                signs[length] = signOf(character);
                length++;
            }
        }

        private static int signOf(char character) {
            switch (character) {
                case 'a':
                case 'b':
                case 'c':
                case 'd':
                    return character - 'a';
                case 'T':
                    return YES;
                case 'F':
                    return NO;
                case '~':
                    return NOT;
                case '&':
                    return AND;
                case '|':
                    return OR;
                case '>':
                    return IF;
                case '(':
                    return OPEN;
                case ')':
                    return CLOSE;
                default:
                    return STRANGE;
            }
        }

        /** Reads the text; returns its fault, or -1 if it has none: then made() is its claim. */
        int readFault() {
            readLength = 0;
            waitingLength = 0;
            open = 0;
            boolean partIsDue = true;
            for (int i = 0; i < length; i++) {
                int sign = signs[i];
                if (partIsDue ? !beginsPart(sign) : !goesOn(sign)) {
                    return i;
                }
                partIsDue = sign > NO && sign != CLOSE;
            }
            if (partIsDue || open > 0) {
                return length;
            }
            settle(1);
            return -1;
        }

        Claim made() {
            return new Claim(read, readLength);
        }

        /** Takes a sign where a part is due; false if it is not allowed there. */
        private boolean beginsPart(int sign) {
            if (sign <= NO) {
                finish(sign);
                return true;
            }
            if (sign == OPEN && open < MOST_OPEN) {
                open++;
                await(sign);
                return true;
            }
            if (sign == NOT) {
                await(sign);
                return true;
            }
            return false;
        }

        /** Takes a sign behind a part; false if it is not allowed there. */
        private boolean goesOn(int sign) {
            if (sign == CLOSE && open > 0) {
                settle(1);
                open--;
                waitingLength = Math.max(0, waitingLength - 1);
                return true;
            }
            if (sign == AND || sign == OR || sign == IF) {
                // What binds as tightly is settled first, but for ">", which is taken from the right.
                settle(sign == IF ? tightness(OR) : tightness(sign));
                await(sign);
                return true;
            }
            return false;
        }

        /** Puts the waiting signs that bind so tightly behind their parts, back to a parenthesis. */
        private void settle(int tightness) {
            for (int i = waitingLength - 1; i >= 0 && tightness(waiting[i]) >= tightness; i--) {
                finish(waiting[i]);
                waitingLength = i;
            }
        }

        private static int tightness(int sign) {
            return sign == NOT ? 4 : sign == AND ? 3 : sign == OR ? 2 : sign == IF ? 1 : 0;
        }

        private void await(int sign) {
            if (waitingLength < LONGEST_TEXT) {
                waiting[waitingLength] = sign;
                waitingLength++;
            }
        }

        private void finish(int sign) {
            if (readLength < LONGEST_TEXT) {
                read[readLength] = sign;
                readLength++;
            }
        }
    }

    /**
     * The claims of which some claims are made, each once, and each behind those of which it is made.
     * The first six are always the signs that stand alone. "~x" has F as its right part, so that all
     * that is asked of "x>F" can be asked of it; it is another part than "x>F" all the same.
     */
    private static final class Parts {
        static final int LEAVES = NO + 1;
        /** At least one sign of each claim stands alone. */
        static final int MOST = LEAVES + PLACES * (LONGEST_TEXT - 1);

        int size = LEAVES;
        final int[] kinds = new int[MOST];
        final int[] left = new int[MOST];
        final int[] right = new int[MOST];
        private final int[] wholes = new int[PLACES];
        private int usedLeaves = 0;
        private final int[] open = new int[LONGEST_TEXT];
        private final int[] depths = new int[MOST];

        Parts() {
            for (int i = 0; i < LEAVES; i++) {
                kinds[i] = i;
            }
        }

        /** Starts anew with the claims of some places. */
        void take(Claim[] shelf, int places) {
            size = LEAVES;
            usedLeaves = 0;
            for (int place = 0; place < PLACES && place < shelf.length; place++) {
                Claim claim = shelf[place];
                wholes[place] = claim != null && has(places, place) ? add(claim) : YES;
            }
        }

        /** The part that is the whole claim of a place. */
        int whole(int place) {
            return at(wholes, place);
        }

        /** Adds a claim with its parts and returns which part it is. */
        private int add(Claim claim) {
            int depth = 0;
            for (int i = 0; i < claim.size; i++) {
                int sign = claim.signs[i];
                int part = sign;
                if (sign <= NO) {
                    usedLeaves |= 1 << sign;
                } else if (sign == NOT) {
                    depth = Math.max(0, depth - 1);
                    part = find(NOT, at(open, depth), NO);
                } else {
                    depth = Math.max(0, depth - 2);
                    part = find(sign, at(open, depth), at(open, depth + 1));
                }
                if (depth < open.length) {
                    open[depth] = part;
                    depth++;
                }
            }
            return open[0];
        }

        private int find(int kind, int one, int other) {
            for (int part = LEAVES; part < size; part++) {
                if (left[part] == one && right[part] == other && kinds[part] == kind) {
                    return part;
                }
            }
            if (size >= MOST) {
                return NO;
            }
            kinds[size] = kind;
            left[size] = one;
            right[size] = other;
            size++;
            return size - 1;
        }

        boolean isIf(int part) {
            return part >= 0 && part < size && (kinds[part] == IF || kinds[part] == NOT);
        }

        int different() {
            return size - LEAVES + Integer.bitCount(usedLeaves);
        }

        int usedFacts() {
            return usedLeaves & (1 << FACTS) - 1;
        }

        int depth(int place) {
            for (int part = 0; part < size; part++) {
                int below = Math.max(at(depths, left[part]), at(depths, right[part]));
                depths[part] = part < LEAVES ? 1 : 1 + below;
            }
            return at(depths, whole(place));
        }
    }

    /**
     * The models with three stages or fewer. A row tells for each part at which first stages it holds:
     * bit n is for the first stage at which the facts n are known. What comes behind it is given: one
     * stage or two, as bits of a row.
     */
    private static final class SmallModels {
        private static final int[] KNOWN = {0xAAAA, 0xCCCC, 0xF0F0, 0xFF00};
        private static final int ALL = 0xFFFF;
        private static final int ROOTS = 16;

        final Parts parts = new Parts();
        /** A row in which all holds, for stages that nothing comes behind. */
        private final int[] nothing = new int[Parts.MOST];
        private final int[] single = new int[Parts.MOST];
        private final int[] second = new int[Parts.MOST];
        private final int[] third = new int[Parts.MOST];

        SmallModels() {
            for (int i = 0; i < nothing.length; i++) {
                nothing[i] = ALL;
            }
        }

        /** To be called when the parts are others. */
        void fillSingle() {
            fill(single, nothing, 0, 0);
        }

        /** The facts, as bits of a row, with which a part holds at a stage that nothing comes behind. */
        int singles(int part) {
            return at(single, part);
        }

        boolean entailsPlainly(int premises, int place) {
            return refuting(single, premises, place) == 0;
        }

        boolean refutesWithTwo(int premises, int place) {
            int useful = usefulLast(premises);
            for (int last = 0; last < ROOTS; last++) {
                if (has(useful, last) && refutesBefore(second, single, last, last, premises, place)) {
                    return true;
                }
            }
            return false;
        }

        boolean refutesWithThree(int premises, int place) {
            int useful = usefulLast(premises);
            for (int last = 0; last < ROOTS; last++) {
                if (has(useful, last) && (refutesForked(last, useful, premises, place)
                    || refutesInChain(last, premises, place))) {
                    return true;
                }
            }
            return false;
        }

        /** Nothing but facts of the claims makes a difference, and premises hold at last stages, too. */
        private int usefulLast(int premises) {
            return below(parts.usedFacts()) & supporting(single, premises);
        }

        /** Whether a first stage before the last stages "last" and a lower one refutes. */
        private boolean refutesForked(int last, int useful, int premises, int place) {
            for (int other = 0; other < last; other++) {
                if (has(useful, other) && refutesBefore(third, single, other, last, premises, place)) {
                    return true;
                }
            }
            return false;
        }

        /** Whether a first stage before a second one before the last stage "last" refutes. */
        private boolean refutesInChain(int last, int premises, int place) {
            fill(second, single, last, last);
            int useful = below(last) & supporting(second, premises);
            for (int middle = 0; middle < last; middle++) {
                if (has(useful, middle) && refutesBefore(third, second, middle, middle, premises, place)) {
                    return true;
                }
            }
            return false;
        }

        /** Whether a first stage before two stages of a row refutes. */
        private boolean refutesBefore(int[] row, int[] behind, int one, int other, int premises, int place) {
            fill(row, behind, one, other);
            return (refuting(row, premises, place) & below(one & other)) != 0;
        }

        private void fill(int[] row, int[] behind, int one, int other) {
            for (int part = 0; part < parts.size && part < row.length; part++) {
                int kind = parts.kinds[part];
                int left = at(row, parts.left[part]);
                int right = at(row, parts.right[part]);
                row[part] = kind < FACTS ? at(KNOWN, kind)
                    : kind == YES ? ALL
                    : kind == NO ? 0
                    : kind == AND ? left & right
                    : kind == OR ? left | right
                    : has(at(behind, part), one) && has(at(behind, part), other) ? ~left & ALL | right
                    : 0;
            }
        }

        private int supporting(int[] row, int premises) {
            int roots = ALL;
            for (int i = 0; i < PLACES; i++) {
                roots &= has(premises, i) ? at(row, parts.whole(i)) : ALL;
            }
            return roots;
        }

        private int refuting(int[] row, int premises, int place) {
            return supporting(row, premises) & ~at(row, parts.whole(place));
        }

        /** The first stages at which no more than some facts are known. */
        private static int below(int facts) {
            int roots = ALL;
            for (int fact = 0; fact < FACTS; fact++) {
                roots &= has(facts, fact) ? ALL : ~KNOWN[fact];
            }
            return roots;
        }
    }

    /** A row of sets of parts, each of up to 192. */
    private static final class PartSets {
        private static final int WORDS = 3;

        private final long[] words;

        PartSets(int sets) {
            words = new long[WORDS * Math.max(0, sets)];
        }

        boolean has(int set, int part) {
            int index = WORDS * set + (part >> 6);
            return index >= 0 && index < words.length && (words[index] >>> (part & 63) & 1L) != 0;
        }

        void add(int set, int part) {
            int index = WORDS * set + (part >> 6);
            if (index >= 0 && index < words.length) {
                words[index] |= 1L << (part & 63);
            }
        }

        void remove(int set, int part) {
            int index = WORDS * set + (part >> 6);
            if (index >= 0 && index < words.length) {
                words[index] &= ~(1L << (part & 63));
            }
        }

        void fill(int set, boolean all) {
            int first = WORDS * set;
            for (int i = 0; i < WORDS; i++) {
                if (first + i >= 0 && first + i < words.length) {
                    words[first + i] = all ? -1L : 0;
                }
            }
        }

        void copy(int set, PartSets others, int other) {
            for (int i = 0; i < WORDS; i++) {
                write(set, i, others.word(other, i));
            }
        }

        void unite(int set, PartSets others, int other) {
            for (int i = 0; i < WORDS; i++) {
                write(set, i, word(set, i) | others.word(other, i));
            }
        }

        void keepOnly(int set, PartSets others, int other) {
            for (int i = 0; i < WORDS; i++) {
                write(set, i, word(set, i) & others.word(other, i));
            }
        }

        boolean isWithin(int set, PartSets others, int other) {
            for (int i = 0; i < WORDS; i++) {
                if ((word(set, i) & ~others.word(other, i)) != 0) {
                    return false;
                }
            }
            return true;
        }

        private long word(int set, int i) {
            int index = WORDS * set + i;
            return index >= 0 && index < words.length ? words[index] : 0;
        }

        private void write(int set, int i, long word) {
            int index = WORDS * set + i;
            if (index >= 0 && index < words.length) {
                words[index] = word;
            }
        }
    }

    /** Sets of parts that are kept, each with a goal; when there are too many, the oldest ones go. */
    private static final class Findings {
        private static final int MOST = 128;

        int size = 0;
        final PartSets sets = new PartSets(MOST);
        private final int[] goals = new int[MOST];
        private int next = 0;

        void clear() {
            size = 0;
            next = 0;
        }

        int goal(int i) {
            return at(goals, i);
        }

        void add(PartSets others, int other, int goal) {
            if (next < 0 || next >= MOST) {
                next = 0;
            }
            sets.copy(next, others, other);
            goals[next] = goal;
            next++;
            size = Math.max(size, next);
        }
    }

    /**
     * The parts that are known on the way to where the search is, in the order in which they became known,
     * each with those from which it is known.
     */
    private static final class Known {
        int size = 0;
        /** The known parts, as the one set of a row. */
        final PartSets set = new PartSets(1);
        private final Parts parts;
        private final int[] order = new int[Parts.MOST];
        /** For each known part those from which it is known; what is assumed is known from itself. */
        private final PartSets reasons = new PartSets(Parts.MOST);

        Known(Parts parts) {
            this.parts = parts;
        }

        boolean has(int part) {
            return set.has(0, part);
        }

        int part(int i) {
            return at(order, i);
        }

        /** Forgets all that became known later than the first parts, of some number. */
        void cutTo(int length) {
            for (int i = size - 1; i >= length && i >= 0; i--) {
                set.remove(0, part(i));
                size = i;
            }
        }

        void assume(int part) {
            infer(part, part, part);
        }

        private void infer(int part, int one, int other) {
            if (!set.has(0, part) && size >= 0 && size < order.length) {
                reasons.fill(part, false);
                reasons.add(part, one);
                reasons.add(part, other);
                set.add(0, part);
                order[size] = part;
                size++;
            }
        }

        /** A part is known now from what of a set is known, and from one part more. */
        void conclude(int part, PartSets others, int other, int more) {
            if (!has(part)) {
                infer(part, more, more);
                reasons.unite(part, others, other);
                reasons.keepOnly(part, set, 0);
                reasons.remove(part, part);
            }
        }

        /** Puts, for the parts of a set that became known later than the first ones, what they are known from. */
        void explain(PartSets used, int which, int first) {
            for (int i = size - 1; i >= first && i >= 0; i--) {
                int part = part(i);
                if (used.has(which, part)) {
                    used.remove(which, part);
                    used.unite(which, reasons, part);
                }
            }
        }

        /** Adds to what is known what its parts make known at once. */
        void spread() {
            boolean grown = true;
            for (int round = 0; grown && round <= Parts.MOST; round++) {
                grown = false;
                for (int part = Parts.LEAVES; part < parts.size; part++) {
                    grown |= grows(part);
                }
                // If no part makes another one known on the way up, none does on the way down.
                for (int part = parts.size - 1; grown && part >= Parts.LEAVES; part--) {
                    grows(part);
                }
            }
        }

        private boolean grows(int part) {
            int kind = at(parts.kinds, part);
            int left = at(parts.left, part);
            int right = at(parts.right, part);
            boolean one = set.has(0, left);
            boolean other = set.has(0, right);
            if (!set.has(0, part)) {
                if (kind == AND ? one && other : kind == OR ? one || other : other) {
                    infer(part, kind == AND || kind == OR && one ? left : right, kind == OR && one ? left : right);
                    return true;
                }
                return false;
            }
            if (kind == AND && !(one && other)) {
                infer(left, part, part);
                infer(right, part, part);
                return true;
            }
            if (parts.isIf(part) && one && !other) {
                infer(right, part, left);
                return true;
            }
            return false;
        }
    }

    /**
     * The search for a stage, of any model, at which some parts hold and a goal does not; where there is
     * none, the goal follows. Each step deeper knows more parts than the one before, so the search ends.
     */
    private static final class Proof {
        private static final int LEVELS = Parts.MOST + 2;
        private static final int MOST_ROUNDS = 1000000;
        /** Instead of a part to try: the goal is proved, or there is nothing left to try. */
        private static final int PROVED = -1;
        private static final int SETTLED = -2;

        final SmallModels models = new SmallModels();
        private final Parts parts = models.parts;
        /** The parts that hold at the stage that is looked for. */
        private final Known known = new Known(parts);
        /** For each depth how many parts were known before it. */
        private final int[] starts = new int[LEVELS];
        /** Of the parts that were known there first, those from which the goal was proved. */
        private final PartSets used = new PartSets(LEVELS);
        /** Parts that must not hold there. */
        private final PartSets doubted = new PartSets(LEVELS);
        /** What holds at all stages behind it so far; at last what holds at the stage itself. */
        private final PartSets found = new PartSets(LEVELS);
        /** With which facts the known parts hold at a stage that nothing comes behind. */
        private final int[] singles = new int[LEVELS];
        /** Stages that were found, as what holds at them, and goals that were proved, as what was used. */
        private final Findings met = new Findings();
        private final Findings proved = new Findings();

        /** To be called when the parts are others: what was found for the old ones tells nothing then. */
        void startAnew() {
            met.clear();
            proved.clear();
        }

        boolean isFound(int premises, int place) {
            known.cutTo(0);
            starts[0] = 0;
            singles[0] = -1;
            assume(0, YES);
            for (int i = 0; i < PLACES; i++) {
                if (has(premises, i)) {
                    assume(0, parts.whole(i));
                }
            }
            return proves(this, 0, parts.whole(place));
        }

        /** Whether a goal follows from what is known at a depth: used there tells from what; if not, found why. */
        private static boolean proves(Proof proof, int depth, int wanted) {
            if (depth < 0 || depth + 1 >= LEVELS) {
                return false;
            }
            int goal = proof.openGoal(depth, wanted);
            if (proof.meetsSingle(depth, goal) || proof.hasMet(depth, goal)) {
                return false;
            }
            if (proof.failsAtAllLast(depth, goal) || proof.hasProved(depth, goal)) {
                return true;
            }
            int trial = proof.firstTrial(depth, goal);
            for (int round = 0; trial >= 0 && round < MOST_ROUNDS; round++) {
                boolean isOr = at(proof.parts.kinds, trial) == OR;
                int left = at(proof.parts.left, trial);
                int right = at(proof.parts.right, trial);
                proof.goDeeper(depth, left);
                boolean follows = proves(proof, depth + 1, isOr ? goal : right);
                proof.known.cutTo(proof.starts[depth + 1]);
                if (follows && isOr && !proof.used.has(depth + 1, left)) {
                    proof.used.copy(depth, proof.used, depth + 1);
                    trial = PROVED;
                } else if (follows) {
                    proof.conclude(depth, isOr ? right : trial, isOr ? trial : YES);
                    trial = proof.firstTrial(depth, goal);
                } else if (isOr) {
                    proof.found.copy(depth, proof.found, depth + 1);
                    return false;
                } else {
                    proof.found.keepOnly(depth, proof.found, depth + 1);
                    proof.doubted.remove(depth, trial);
                    trial = proof.nextTrial(depth);
                }
            }
            if (trial == PROVED) {
                proof.known.explain(proof.used, depth, proof.starts[depth]);
                proof.proved.add(proof.used, depth, goal);
                return true;
            }
            proof.meet(depth);
            return false;
        }

        /** One part more is assumed one step deeper. */
        private void goDeeper(int depth, int part) {
            if (depth >= 0 && depth + 1 < LEVELS) {
                starts[depth + 1] = known.size;
                singles[depth + 1] = singles[depth];
                assume(depth + 1, part);
            }
        }

        private void assume(int depth, int part) {
            known.assume(part);
            if (depth >= 0 && depth < LEVELS) {
                singles[depth] &= models.singles(part);
            }
        }

        /**
         * What was proved one step deeper makes a part known. For the right side of an "or" that is so just while
         * this goal is to be proved: as it follows with the left side, there is the right one left.
         */
        private void conclude(int depth, int part, int more) {
            known.conclude(part, used, depth + 1, more);
            if (depth >= 0 && depth < LEVELS) {
                singles[depth] &= models.singles(part);
            }
        }

        /** "x>y" follows just if y follows with x: so x is known, and y is the goal. */
        private int openGoal(int depth, int wanted) {
            int goal = wanted;
            for (int i = 0; i < parts.size && parts.isIf(goal); i++) {
                assume(depth, at(parts.left, goal));
                goal = at(parts.right, goal);
            }
            return goal;
        }

        /** Whether a stage that nothing comes behind will do; found is what holds there then. */
        private boolean meetsSingle(int depth, int goal) {
            int fitting = at(singles, depth) & ~models.singles(goal);
            if (fitting == 0) {
                return false;
            }
            int lowest = fitting & -fitting;
            found.fill(depth, false);
            for (int part = 0; part < parts.size; part++) {
                if ((models.singles(part) & lowest) != 0) {
                    found.add(depth, part);
                }
            }
            return true;
        }

        /** Whether a stage that was found before will do; found is what holds there then. */
        private boolean hasMet(int depth, int goal) {
            for (int i = 0; i < met.size; i++) {
                if (known.set.isWithin(0, met.sets, i) && !met.sets.has(i, goal)) {
                    found.copy(depth, met.sets, i);
                    return true;
                }
            }
            return false;
        }

        /**
         * Whether the goal is F and can be at no last stage: then it is proved, as each stage leads to a last one
         * in a finite model. Used are then parts of which so few as these hold together at none.
         */
        private boolean failsAtAllLast(int depth, int goal) {
            if (goal != NO) {
                return false;
            }
            used.fill(depth, false);
            int fitting = -1;
            for (int i = 0; i < known.size && fitting != 0; i++) {
                int part = known.part(i);
                if ((fitting & ~models.singles(part)) != 0) {
                    fitting &= models.singles(part);
                    used.add(depth, part);
                }
            }
            for (int i = known.size - 1; i >= 0; i--) {
                int part = known.part(i);
                if (used.has(depth, part) && singlesWithout(depth, part) == 0) {
                    used.remove(depth, part);
                }
            }
            return true;
        }

        /** With which facts all used parts but one hold at a stage that nothing comes behind. */
        private int singlesWithout(int depth, int without) {
            int fitting = -1;
            for (int i = 0; i < known.size; i++) {
                int part = known.part(i);
                fitting &= part != without && used.has(depth, part) ? models.singles(part) : -1;
            }
            return fitting;
        }

        private boolean hasProved(int depth, int goal) {
            for (int i = 0; i < proved.size; i++) {
                if (proved.goal(i) == goal && proved.sets.isWithin(i, known.set, 0)) {
                    used.copy(depth, proved.sets, i);
                    return true;
                }
            }
            return false;
        }

        /** Spreads what is known; then an "or" of which no side is known, or what nextTrial tells. */
        private int firstTrial(int depth, int goal) {
            known.spread();
            if (known.has(NO) || known.has(goal)) {
                used.fill(depth, false);
                used.add(depth, known.has(NO) ? NO : goal);
                return PROVED;
            }
            for (int part = Parts.LEAVES; part < parts.size; part++) {
                if (parts.kinds[part] == OR && known.has(part)
                    && !known.has(parts.left[part]) && !known.has(parts.right[part])) {
                    return part;
                }
            }
            doubt(depth, goal);
            found.fill(depth, true);
            return nextTrial(depth);
        }

        /** A doubted "if": behind the stage, there is to be one at which its left part holds alone. */
        private int nextTrial(int depth) {
            for (int part = parts.size - 1; part >= Parts.LEAVES; part--) {
                if (doubted.has(depth, part) && parts.isIf(part) && !known.has(part)
                    && !known.has(parts.left[part])) {
                    return part;
                }
            }
            return SETTLED;
        }

        /** Finds what must not hold when just the known parts must hold, and the goal must not. */
        private void doubt(int depth, int goal) {
            doubted.fill(depth, false);
            doubted.add(depth, goal);
            for (int part = parts.size - 1; part >= Parts.LEAVES; part--) {
                int left = parts.left[part];
                int right = parts.right[part];
                if (known.has(part)) {
                    if (parts.isIf(part) && !known.has(right)) {
                        doubted.add(depth, left);
                    }
                } else if (doubted.has(depth, part)) {
                    if (!parts.isIf(part)) {
                        doubted.add(depth, left);
                        doubted.add(depth, right);
                    } else if (known.has(left)) {
                        doubted.add(depth, right);
                    }
                }
            }
        }

        /**
         * Makes the stage at which just the known facts are known, before all that were found for it: what holds
         * at the stage is some of what holds at all of these.
         */
        private void meet(int depth) {
            for (int part = 0; part < parts.size; part++) {
                // Parts come before what is made of them: these are told for the stage itself by now.
                boolean one = found.has(depth, parts.left[part]);
                boolean other = found.has(depth, parts.right[part]);
                int kind = parts.kinds[part];
                boolean holds = kind <= NO ? known.has(part)
                    : kind == AND ? one && other
                    : kind == OR ? one || other
                    : !one || other;
                if (!holds) {
                    found.remove(depth, part);
                }
            }
            met.add(found, depth, NO);
        }
    }
}
