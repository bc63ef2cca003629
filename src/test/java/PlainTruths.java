import java.util.ArrayDeque;
import java.util.ArrayList;
import java.util.Deque;
import java.util.HashMap;
import java.util.HashSet;
import java.util.LinkedHashSet;
import java.util.List;
import java.util.Map;
import java.util.Set;

/**
 * The document again, done as slowly and as near to its words as can be, to compare the program with.
 * What follows is decided by a calculus of sequents (Dyckhoff's, without contraction), models by trying all.
 */
final class PlainTruths {
    static final int UNKNOWN = -1;
    static final int BAD_VALUE = -2;
    static final int FULL = -3;
    static final int NOT_POSSIBLE = -4;
    static final int NONE = -5;
    /** Answered where a proof would take too long here: the answer is not compared then. */
    static final int TOO_LONG = -999;

    record Form(char sign, Form left, Form right) {
        int size() {
            return 1 + (left == null ? 0 : left.size()) + (right == null ? 0 : right.size());
        }

        int depth() {
            return 1 + Math.max(left == null ? 0 : left.depth(), right == null ? 0 : right.depth());
        }

        void collect(Set<Form> all) {
            all.add(this);
            if (left != null) {
                left.collect(all);
            }
            if (right != null) {
                right.collect(all);
            }
        }
    }

    @SuppressWarnings("serial")
    static final class Fault extends RuntimeException {
        final int index;

        Fault(int index) {
            super(null, null, false, false);
            this.index = index;
        }
    }

    @SuppressWarnings("serial")
    static final class TooLong extends RuntimeException {
        TooLong() {
            super(null, null, false, false);
        }
    }

    /** Any stages with facts. */
    static final class Stages {
        final int n;
        final boolean[][] leads;
        final boolean[][] known;

        Stages(int n) {
            this.n = n;
            leads = new boolean[n][n];
            known = new boolean[n][4];
            for (int i = 0; i < n; i++) {
                leads[i][i] = true;
            }
        }

        void close() {
            for (int k = 0; k < n; k++) {
                for (int i = 0; i < n; i++) {
                    for (int j = 0; j < n; j++) {
                        leads[i][j] |= leads[i][k] && leads[k][j];
                    }
                }
            }
            for (int i = 0; i < n; i++) {
                for (int j = 0; j < n; j++) {
                    for (int f = 0; f < 4; f++) {
                        known[j][f] |= leads[i][j] && known[i][f];
                    }
                }
            }
        }

        /** The same stages with others put in their place: number[i] is the new number of i, or -1. */
        Stages renumbered(int[] number, int size) {
            Stages made = new Stages(size);
            for (int i = 0; i < n; i++) {
                for (int j = 0; j < n; j++) {
                    if (number[i] >= 0 && number[j] >= 0) {
                        made.leads[number[i]][number[j]] |= leads[i][j];
                    }
                }
                if (number[i] >= 0) {
                    made.known[number[i]] = known[i].clone();
                }
            }
            return made;
        }

        boolean holds(Form form, int stage) {
            switch (form.sign) {
                case 'T':
                    return true;
                case 'F':
                    return false;
                case '&':
                    return holds(form.left, stage) && holds(form.right, stage);
                case '|':
                    return holds(form.left, stage) || holds(form.right, stage);
                case '>':
                case '~':
                    for (int j = 0; j < n; j++) {
                        if (leads[stage][j] && holds(form.left, j)
                            && (form.sign == '~' || !holds(form.right, j))) {
                            return false;
                        }
                    }
                    return true;
                default:
                    return known[stage][form.sign - 'a'];
            }
        }

        boolean[][] alike() {
            boolean[][] alike = new boolean[n][n];
            for (int i = 0; i < n; i++) {
                for (int j = 0; j < n; j++) {
                    alike[i][j] = java.util.Arrays.equals(known[i], known[j]);
                }
            }
            boolean changed = true;
            while (changed) {
                changed = false;
                for (int i = 0; i < n; i++) {
                    for (int j = 0; j < n; j++) {
                        if (alike[i][j] && !(matched(alike, i, j) && matched(alike, j, i))) {
                            alike[i][j] = false;
                            alike[j][i] = false;
                            changed = true;
                        }
                    }
                }
            }
            return alike;
        }

        private boolean matched(boolean[][] alike, int one, int other) {
            for (int i = 0; i < n; i++) {
                boolean found = !leads[one][i];
                for (int j = 0; j < n; j++) {
                    found |= leads[other][j] && alike[i][j];
                }
                if (!found) {
                    return false;
                }
            }
            return true;
        }
    }

    record State(Stages stages, Form[] shelf) {
    }

    private Stages stages = new Stages(1);
    private Form[] shelf = new Form[5];
    private final StringBuilder text = new StringBuilder();
    private final Deque<State> history = new ArrayDeque<>();
    private State snapshot = null;
    private final Map<Object, Boolean> proofs = new HashMap<>();
    private int steps;

    private void become(Stages newStages, Form[] newShelf) {
        history.addLast(new State(stages, shelf));
        if (history.size() > 4) {
            history.removeFirst();
        }
        stages = newStages;
        shelf = newShelf;
    }

    private Form[] shelfWith(int place, Form form) {
        Form[] made = shelf.clone();
        made[place] = form;
        return made;
    }

    private Stages copy(int size) {
        int[] number = new int[stages.n];
        for (int i = 0; i < number.length; i++) {
            number[i] = i;
        }
        return stages.renumbered(number, size);
    }

    private boolean noStage(int stage) {
        return stage < 0 || stage >= stages.n;
    }

    private boolean noPlace(int place) {
        return place < 0 || place > 4;
    }

    private boolean noClaim(int place) {
        return noPlace(place) || shelf[place] == null;
    }

    int addStage(int stage) {
        if (noStage(stage)) {
            return UNKNOWN;
        }
        if (stages.n == 8) {
            return FULL;
        }
        Stages made = copy(stages.n + 1);
        made.leads[stage][stages.n] = true;
        made.close();
        become(made, shelf);
        return stages.n - 1;
    }

    private static int pairs(Stages stages) {
        int sum = 0;
        for (int i = 0; i < stages.n; i++) {
            for (int j = 0; j < stages.n; j++) {
                sum += i != j && stages.leads[i][j] ? 1 : 0;
            }
        }
        return sum;
    }

    int lead(int from, int to) {
        if (noStage(from) || noStage(to)) {
            return UNKNOWN;
        }
        if (to <= from) {
            return BAD_VALUE;
        }
        if (stages.leads[from][to]) {
            return NONE;
        }
        Stages made = copy(stages.n);
        made.leads[from][to] = true;
        made.close();
        int more = pairs(made) - pairs(stages);
        become(made, shelf);
        return more;
    }

    private int knowing(int fact) {
        int bits = 0;
        for (int i = 0; i < stages.n; i++) {
            bits |= stages.known[i][fact] ? 1 << i : 0;
        }
        return bits;
    }

    int learn(int stage, int fact) {
        if (noStage(stage) || fact < 0 || fact > 3) {
            return UNKNOWN;
        }
        if (stages.known[stage][fact]) {
            return NONE;
        }
        Stages made = copy(stages.n);
        made.known[stage][fact] = true;
        made.close();
        become(made, shelf);
        return knowing(fact);
    }

    int forget(int stage, int fact) {
        if (noStage(stage) || fact < 0 || fact > 3) {
            return UNKNOWN;
        }
        if (!stages.known[stage][fact]) {
            return NONE;
        }
        Stages made = copy(stages.n);
        for (int i = 0; i < stages.n; i++) {
            if (stages.leads[i][stage]) {
                made.known[i][fact] = false;
            }
        }
        become(made, shelf);
        return knowing(fact);
    }

    int removeStage(int stage) {
        if (noStage(stage)) {
            return UNKNOWN;
        }
        if (stages.n == 1) {
            return NOT_POSSIBLE;
        }
        int[] number = new int[stages.n];
        for (int i = 0; i < number.length; i++) {
            number[i] = i < stage ? i : i == stage ? -1 : i - 1;
        }
        become(stages.renumbered(number, stages.n - 1), shelf);
        return stages.n;
    }

    private int lowestAlike(boolean[][] alike, int stage) {
        int i = 0;
        while (!alike[i][stage]) {
            i++;
        }
        return i;
    }

    int shrink() {
        boolean[][] alike = stages.alike();
        int[] number = new int[stages.n];
        int kept = 0;
        for (int i = 0; i < stages.n; i++) {
            int lowest = lowestAlike(alike, i);
            number[i] = lowest == i ? kept++ : -1;
        }
        Stages made = new Stages(kept);
        for (int i = 0; i < stages.n; i++) {
            if (number[i] >= 0) {
                made.known[number[i]] = stages.known[i].clone();
                for (int j = 0; j < stages.n; j++) {
                    if (stages.leads[i][j]) {
                        made.leads[number[i]][number[lowestAlike(alike, j)]] = true;
                    }
                }
            }
        }
        made.close();
        for (int i = 0; i < kept; i++) {
            for (int j = 0; j < i; j++) {
                if (made.leads[i][j]) {
                    return NOT_POSSIBLE;
                }
            }
        }
        int removed = stages.n - kept;
        if (removed == 0) {
            return NONE;
        }
        become(made, shelf);
        return removed;
    }

    private int at;
    private int open;

    private Form read() {
        at = 0;
        open = 0;
        Form form = readClaim();
        if (at < text.length()) {
            throw new Fault(at);
        }
        return form;
    }

    private boolean next(char sign) {
        if (at < text.length() && text.charAt(at) == sign) {
            at++;
            return true;
        }
        return false;
    }

    private Form readClaim() {
        Form form = readEither();
        return next('>') ? new Form('>', form, readClaim()) : form;
    }

    private Form readEither() {
        Form form = readBoth();
        while (next('|')) {
            form = new Form('|', form, readBoth());
        }
        return form;
    }

    private Form readBoth() {
        Form form = readSimple();
        while (next('&')) {
            form = new Form('&', form, readSimple());
        }
        return form;
    }

    private Form readSimple() {
        if (next('~')) {
            return new Form('~', readSimple(), null);
        }
        if (open < 6 && next('(')) {
            open++;
            Form form = readClaim();
            if (!next(')')) {
                throw new Fault(at);
            }
            open--;
            return form;
        }
        for (char sign : "abcdTF".toCharArray()) {
            if (next(sign)) {
                return new Form(sign, null, null);
            }
        }
        throw new Fault(at);
    }

    private int stagesOf(Form form) {
        int bits = 0;
        for (int i = 0; i < stages.n; i++) {
            bits |= stages.holds(form, i) ? 1 << i : 0;
        }
        return bits;
    }

    int put(int place) {
        if (noPlace(place)) {
            return UNKNOWN;
        }
        Form form;
        try {
            form = read();
        } catch (Fault fault) {
            return -100 - fault.index;
        }
        if (form.equals(shelf[place])) {
            return NONE;
        }
        become(stages, shelfWith(place, form));
        return stagesOf(form);
    }

    private int filled() {
        int sum = 0;
        for (Form form : shelf) {
            sum += form == null ? 0 : 1;
        }
        return sum;
    }

    int drop(int place) {
        if (noClaim(place)) {
            return UNKNOWN;
        }
        become(stages, shelfWith(place, null));
        return filled();
    }

    int join(int place, int one, int how, int other) {
        if (noPlace(place) || noClaim(one) || noClaim(other)) {
            return UNKNOWN;
        }
        if (how < 0 || how > 2) {
            return BAD_VALUE;
        }
        Form form = new Form("&|>".charAt(how), shelf[one], shelf[other]);
        if (form.size() > 24) {
            return NOT_POSSIBLE;
        }
        become(stages, shelfWith(place, form));
        return stagesOf(form);
    }

    int type(char character) {
        if (text.length() == 30) {
            return FULL;
        }
        text.append(character);
        return text.length();
    }

    int clearText() {
        int length = text.length();
        text.setLength(0);
        return length;
    }

    int undo() {
        if (history.isEmpty()) {
            return NONE;
        }
        State state = history.removeLast();
        stages = state.stages;
        shelf = state.shelf;
        return history.size();
    }

    int keep() {
        snapshot = new State(stages, shelf);
        return stages.n;
    }

    int restore() {
        if (snapshot == null) {
            return NONE;
        }
        become(snapshot.stages, snapshot.shelf);
        return stages.n;
    }

    int stage(int stage, int what) {
        if (noStage(stage)) {
            return UNKNOWN;
        }
        int bits = 0;
        switch (what) {
            case 0:
            case 1:
                for (int i = 0; i < stages.n; i++) {
                    bits |= (what == 0 ? stages.leads[stage][i] : stages.leads[i][stage]) ? 1 << i : 0;
                }
                return bits;
            case 2:
                for (int i = 0; i < 4; i++) {
                    bits |= stages.known[stage][i] ? 1 << i : 0;
                }
                return bits;
            case 3:
                return lowestAlike(stages.alike(), stage);
            default:
                return BAD_VALUE;
        }
    }

    int alike(int one, int other) {
        if (noStage(one) || noStage(other)) {
            return UNKNOWN;
        }
        return stages.alike()[one][other] ? 1 : 0;
    }

    int claim(int place, int what) {
        if (noClaim(place)) {
            return UNKNOWN;
        }
        Form form = shelf[place];
        Set<Form> all = new HashSet<>();
        form.collect(all);
        switch (what) {
            case 0:
                return stagesOf(form);
            case 1:
                for (int i = 0; i < stages.n; i++) {
                    if (!stages.holds(form, i)) {
                        return i;
                    }
                }
                return NONE;
            case 2:
                return form.size();
            case 3:
                return all.size();
            case 4:
                int bits = 0;
                for (Form part : all) {
                    bits |= part.sign >= 'a' && part.sign <= 'd' ? 1 << part.sign - 'a' : 0;
                }
                return bits;
            case 5:
                return follows(0, place);
            case 6:
                return followsPlainly(0, place);
            case 7:
                return form.depth();
            default:
                return BAD_VALUE;
        }
    }

    int holds(int place, int stage) {
        if (noClaim(place) || noStage(stage)) {
            return UNKNOWN;
        }
        return stages.holds(shelf[place], stage) ? 1 : 0;
    }

    private int error(int premises, int place) {
        if (premises < 0 || premises > 31) {
            return BAD_VALUE;
        }
        for (int i = 0; i < 5; i++) {
            if ((premises >> i & 1) != 0 && shelf[i] == null) {
                return BAD_VALUE;
            }
        }
        return noClaim(place) ? UNKNOWN : 0;
    }

    private List<Form> forms(int places) {
        List<Form> forms = new ArrayList<>();
        for (int i = 0; i < 5; i++) {
            if ((places >> i & 1) != 0) {
                forms.add(shelf[i]);
            }
        }
        return forms;
    }

    int follows(int premises, int place) {
        int error = error(premises, place);
        if (error != 0) {
            return error;
        }
        try {
            return entails(premises, place) ? 1 : 0;
        } catch (TooLong tooLong) {
            return TOO_LONG;
        }
    }

    private boolean entails(int premises, int place) {
        if (fewestStages(premises, place) > 0) {
            return false;
        }
        Set<Form> known = new LinkedHashSet<>();
        for (Form form : forms(premises)) {
            known.add(plain(form));
        }
        steps = 0;
        proofs.clear();
        return proves(known, plain(shelf[place]));
    }

    /** "~x" as "x>F". */
    private static Form plain(Form form) {
        if (form.left == null) {
            return form;
        }
        return form.sign == '~' ? when(plain(form.left), new Form('F', null, null))
            : new Form(form.sign, plain(form.left), plain(form.right));
    }

    private static Form when(Form left, Form right) {
        return new Form('>', left, right);
    }

    private static Set<Form> with(Set<Form> known, Form without, Form... more) {
        Set<Form> made = new LinkedHashSet<>(known);
        made.remove(without);
        made.addAll(List.of(more));
        return made;
    }

    private boolean proves(Set<Form> known, Form goal) {
        steps++;
        if (steps > 20000) {
            throw new TooLong();
        }
        Object question = List.of(new HashSet<>(known), goal);
        Boolean answer = proofs.get(question);
        if (answer == null) {
            answer = provesAnew(known, goal);
            proofs.put(question, answer);
        }
        return answer;
    }

    private boolean provesAnew(Set<Form> known, Form goal) {
        if (goal.sign == 'T' || known.contains(goal) || known.contains(new Form('F', null, null))) {
            return true;
        }
        if (goal.sign == '&') {
            return proves(known, goal.left) && proves(known, goal.right);
        }
        if (goal.sign == '>') {
            return proves(with(known, null, goal.left), goal.right);
        }
        for (Form form : known) {
            switch (form.sign) {
                case 'T':
                    return proves(with(known, form), goal);
                case '&':
                    return proves(with(known, form, form.left, form.right), goal);
                case '|':
                    return proves(with(known, form, form.left), goal)
                        && proves(with(known, form, form.right), goal);
                case '>':
                    Form from = form.left;
                    Form to = form.right;
                    if (from.sign == 'T' || from.left == null && known.contains(from)) {
                        return proves(with(known, form, to), goal);
                    }
                    if (from.sign == 'F') {
                        return proves(with(known, form), goal);
                    }
                    if (from.sign == '&') {
                        return proves(with(known, form, when(from.left, when(from.right, to))), goal);
                    }
                    if (from.sign == '|') {
                        return proves(with(known, form, when(from.left, to), when(from.right, to)), goal);
                    }
                    break;
                default:
            }
        }
        if (goal.sign == '|' && (proves(known, goal.left) || proves(known, goal.right))) {
            return true;
        }
        for (Form form : known) {
            if (form.sign == '>' && form.left.sign == '>'
                && proves(with(known, form, when(form.left.right, form.right)), form.left)
                && proves(with(known, form, form.right), goal)) {
                return true;
            }
        }
        return false;
    }

    int followsPlainly(int premises, int place) {
        int error = error(premises, place);
        if (error != 0) {
            return error;
        }
        return refutedBy(1, premises, place) ? 0 : 1;
    }

    int fewestStages(int premises, int place) {
        int error = error(premises, place);
        if (error != 0) {
            return error;
        }
        for (int n = 1; n <= 3; n++) {
            if (refutedBy(n, premises, place)) {
                return n;
            }
        }
        return NONE;
    }

    /** Whether any model of n stages has one at which the premises hold and the claim does not. */
    private boolean refutedBy(int n, int premises, int place) {
        Set<Form> all = new HashSet<>();
        for (Form form : forms(premises | 1 << place)) {
            form.collect(all);
        }
        List<Integer> facts = new ArrayList<>();
        for (int fact = 0; fact < 4; fact++) {
            if (all.contains(new Form((char) ('a' + fact), null, null))) {
                facts.add(fact);
            }
        }
        for (int order = 0; order < 8; order++) {
            Stages model = new Stages(n);
            if (n > 1) {
                model.leads[0][1] = (order & 1) != 0;
            }
            if (n > 2) {
                model.leads[0][2] = (order & 2) != 0;
                model.leads[1][2] = (order & 4) != 0;
            }
            int before = pairs(model);
            model.close();
            if (before == pairs(model) && refutedBy(model, facts, 0, premises, place)) {
                return true;
            }
        }
        return false;
    }

    private boolean refutedBy(Stages model, List<Integer> facts, int from, int premises, int place) {
        if (from == facts.size()) {
            for (int i = 0; i < model.n; i++) {
                boolean refutes = !model.holds(shelf[place], i);
                for (Form form : forms(premises)) {
                    refutes = refutes && model.holds(form, i);
                }
                if (refutes) {
                    return true;
                }
            }
            return false;
        }
        int fact = facts.get(from);
        for (int which = 0; which < 1 << model.n; which++) {
            boolean grows = true;
            for (int i = 0; i < model.n; i++) {
                model.known[i][fact] = (which >> i & 1) != 0;
            }
            for (int i = 0; i < model.n; i++) {
                for (int j = 0; j < model.n; j++) {
                    grows &= !model.leads[i][j] || !model.known[i][fact] || model.known[j][fact];
                }
            }
            if (grows && refutedBy(model, facts, from + 1, premises, place)) {
                return true;
            }
        }
        return false;
    }

    int fewestPremises(int premises, int place) {
        int error = error(premises, place);
        if (error != 0) {
            return error;
        }
        try {
            if (!entails(premises, place)) {
                return NOT_POSSIBLE;
            }
            int best = premises;
            for (int some = 31; some >= 0; some--) {
                if ((some & ~premises) == 0 && Integer.bitCount(some) <= Integer.bitCount(best)
                    && entails(some, place)) {
                    best = some;
                }
            }
            return best;
        } catch (TooLong tooLong) {
            return TOO_LONG;
        }
    }

    int relation(int one, int other) {
        if (noClaim(one) || noClaim(other)) {
            return UNKNOWN;
        }
        int forth = follows(1 << one, other);
        int back = follows(1 << other, one);
        return forth < 0 || back < 0 ? TOO_LONG : forth + 2 * back;
    }

    int count(int what) {
        int bits = 0;
        switch (what) {
            case 0:
                return stages.n;
            case 1:
                return pairs(stages);
            case 2:
                return filled();
            case 3:
            case 4:
                for (int i = 0; i < stages.n; i++) {
                    bits |= Integer.bitCount(stage(i, what == 3 ? 0 : 1)) == 1 ? 1 << i : 0;
                }
                return bits;
            case 5:
                for (int i = 0; i < stages.n; i++) {
                    bits |= 1 << stage(i, 3);
                }
                return Integer.bitCount(bits);
            case 6:
                for (int fact = 0; fact < 4; fact++) {
                    bits |= knowing(fact) == (1 << stages.n) - 1 ? 1 << fact : 0;
                }
                return bits;
            case 7:
                return history.size();
            case 8:
                return text.length();
            default:
                return BAD_VALUE;
        }
    }
}
