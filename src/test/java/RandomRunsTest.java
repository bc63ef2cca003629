import java.util.ArrayList;
import java.util.List;
import java.util.Random;
import java.util.Set;
import java.util.TreeSet;

/** Random runs of calls, with fixed seeds, each answer compared with the one of PlainTruths. */
public final class RandomRunsTest {
    private static final int CALLS = 512;
    private static final int RUNS = 250;

    /** Each call with what it can tell but numbers from 0 on: some run must have told it, and such a number too. */
    private static final String[] TELLS = {"addStage UNKNOWN FULL", "lead UNKNOWN BAD_VALUE NONE",
        "learn UNKNOWN NONE", "forget UNKNOWN NONE", "removeStage UNKNOWN NOT_POSSIBLE", "shrink NOT_POSSIBLE NONE",
        "put UNKNOWN FAULT NONE", "drop UNKNOWN", "join UNKNOWN BAD_VALUE NOT_POSSIBLE", "type FULL", "clearText",
        "undo NONE", "keep", "restore NONE", "stage UNKNOWN BAD_VALUE", "alike UNKNOWN", "claim UNKNOWN BAD_VALUE NONE",
        "holds UNKNOWN", "follows BAD_VALUE UNKNOWN", "followsPlainly BAD_VALUE UNKNOWN",
        "fewestStages BAD_VALUE UNKNOWN NONE", "fewestPremises BAD_VALUE UNKNOWN NOT_POSSIBLE", "relation UNKNOWN",
        "count BAD_VALUE"};
    private static final String[] ERRORS = {"UNKNOWN", "BAD_VALUE", "FULL", "NOT_POSSIBLE", "NONE"};

    /** What was told in all runs, as call and kind of answer. */
    private static final Set<String> TOLD = new TreeSet<>();

    private final Random random;
    private final StageTruths real = new StageTruths();
    private final PlainTruths plain = new PlainTruths();
    private final List<String> calls = new ArrayList<>();
    private final int facts;
    private final int nots;
    private final int longest;
    private final int actsIn10;
    private int skipped = 0;

    private RandomRunsTest(long seed) {
        random = new Random(seed);
        facts = 1 + random.nextInt(4);
        nots = random.nextInt(50);
        longest = 3 + random.nextInt(28);
        actsIn10 = 1 + random.nextInt(6);
    }

    public static void main(String[] args) {
        long first = args.length > 0 ? Long.parseLong(args[0]) : 1;
        int runs = args.length > 1 ? Integer.parseInt(args[1]) : RUNS;
        int wrong = 0;
        long compared = 0;
        long skipped = 0;
        for (long seed = first; seed < first + runs; seed++) {
            RandomRunsTest run = new RandomRunsTest(seed);
            wrong += run.isAsDue(seed) ? 0 : 1;
            compared += run.calls.size();
            skipped += run.skipped;
        }
        int missing = runs < RUNS ? 0 : neverTold();
        System.out.println(compared + " calls compared, " + skipped + " skipped, " + wrong + " runs wrong");
        if (wrong != 0 || missing != 0 || skipped * 100 > compared) {
            System.exit(1);
        }
    }

    /** How many of the answers that a call can tell no run has told. */
    private static int neverTold() {
        int missing = 0;
        for (String tells : TELLS) {
            String[] words = tells.split(" ");
            for (int i = 0; i < words.length; i++) {
                String told = words[0] + " " + (i == 0 ? "ANSWER" : words[i]);
                if (!TOLD.remove(told)) {
                    missing++;
                    System.out.println("told in no run: " + told);
                }
            }
        }
        for (String told : TOLD) {
            missing++;
            System.out.println("can not be told: " + told);
        }
        return missing;
    }

    private static String kindOf(int answer) {
        return answer >= 0 ? "ANSWER" : answer <= -100 ? "FAULT" : ERRORS[-1 - answer];
    }

    private boolean isAsDue(long seed) {
        while (calls.size() < CALLS) {
            if (!step()) {
                System.out.println("seed " + seed + ": " + String.join("; ", calls));
                return false;
            }
        }
        return true;
    }

    private boolean step() {
        if (random.nextInt(10) < actsIn10) {
            return random.nextInt(3) == 0 ? textAndPut() : act();
        }
        return told();
    }

    private boolean same(String call, int got, int due) {
        calls.add(call + " = " + got);
        if (due == PlainTruths.TOO_LONG) {
            skipped++;
            return true;
        }
        if (got != due) {
            calls.add("due was " + due);
            return false;
        }
        TOLD.add(call.substring(0, call.indexOf('(')) + " " + kindOf(got));
        return true;
    }

    /** Mostly 0 to n - 1, sometimes outside. */
    private int number(int n) {
        return random.nextInt(25) == 0 ? random.nextInt(n + 6) - 3 : random.nextInt(n);
    }

    private int stage() {
        return number(plain.count(0));
    }

    private boolean textAndPut() {
        boolean fine = same("clearText()", real.clearText(), plain.clearText());
        StringBuilder text = new StringBuilder(claim(1 + random.nextInt(longest), 0));
        if (random.nextInt(6) == 0) {
            int at = random.nextInt(text.length());
            switch (random.nextInt(3)) {
                case 0 -> text.deleteCharAt(at);
                case 1 -> text.setCharAt(at, anySign());
                default -> text.insert(at, anySign());
            }
        }
        for (int i = 0; i < text.length() && fine && calls.size() < CALLS; i++) {
            char c = text.charAt(i);
            fine = same("type((char) " + (int) c + ")", real.type(c), plain.type(c));
        }
        int place = number(5);
        // What an object answers after its last call is free.
        return fine && (calls.size() == CALLS || same("put(" + place + ")", real.put(place), plain.put(place)));
    }

    private char anySign() {
        String signs = "abcdTF~&|>()((( eA\u0000\u00ff\u1234\uffff";
        return signs.charAt(random.nextInt(signs.length()));
    }

    /** A text of a claim of a size; 0 to 3 tells what may stand there: claim, either, both, simple. */
    private String claim(int size, int where) {
        if (size <= 1) {
            int which = random.nextInt(12);
            return which == 0 ? "T" : which == 1 ? "F" : String.valueOf((char) ('a' + random.nextInt(facts)));
        }
        if (size == 2 || random.nextInt(100) < nots) {
            return "~" + claim(size - 1, 3);
        }
        int left = 1 + random.nextInt(size - 2);
        int right = size - 1 - left;
        int how = random.nextInt(3);
        String text = how == 0 ? claim(left, 1) + ">" + claim(right, 0)
            : how == 1 ? claim(left, 1) + "|" + claim(right, 2)
            : claim(left, 2) + "&" + claim(right, 3);
        return how < where || random.nextInt(20) == 0 ? "(" + text + ")" : text;
    }

    private boolean act() {
        int one = stage();
        int other = stage();
        int fact = number(4);
        int place = number(5);
        switch (random.nextInt(14)) {
            case 0, 1:
                return same("addStage(" + one + ")", real.addStage(one), plain.addStage(one));
            case 2, 3:
                return same("lead(" + one + ", " + other + ")", real.lead(one, other), plain.lead(one, other));
            case 4, 5:
                return same("learn(" + one + ", " + fact + ")", real.learn(one, fact), plain.learn(one, fact));
            case 6:
                return same("forget(" + one + ", " + fact + ")", real.forget(one, fact), plain.forget(one, fact));
            case 7:
                return random.nextInt(2) == 0
                    || same("removeStage(" + one + ")", real.removeStage(one), plain.removeStage(one));
            case 8:
                return random.nextInt(2) == 0 || same("shrink()", real.shrink(), plain.shrink());
            case 9:
                return random.nextInt(3) != 0 || same("drop(" + place + ")", real.drop(place), plain.drop(place));
            case 10, 11:
                int first = number(5);
                int how = number(3);
                int second = number(5);
                return same("join(" + place + ", " + first + ", " + how + ", " + second + ")",
                    real.join(place, first, how, second), plain.join(place, first, how, second));
            case 12:
                return same("undo()", real.undo(), plain.undo());
            default:
                return random.nextInt(3) == 0 ? same("keep()", real.keep(), plain.keep())
                    : same("restore()", real.restore(), plain.restore());
        }
    }

    private boolean told() {
        int one = stage();
        int other = stage();
        int place = number(5);
        int second = number(5);
        int premises = random.nextInt(25) == 0 ? random.nextInt(70) - 20 : filledOf(random.nextInt(32));
        String question = "(" + premises + ", " + place + ")";
        switch (random.nextInt(14)) {
            case 0:
                int what = number(4);
                return same("stage(" + one + ", " + what + ")", real.stage(one, what), plain.stage(one, what));
            case 1:
                return same("alike(" + one + ", " + other + ")", real.alike(one, other), plain.alike(one, other));
            case 2, 3, 4:
                int asked = number(8);
                return same("claim(" + place + ", " + asked + ")", real.claim(place, asked), plain.claim(place, asked));
            case 5:
                return same("holds(" + place + ", " + one + ")", real.holds(place, one), plain.holds(place, one));
            case 6, 7, 8:
                return same("follows" + question, real.follows(premises, place), plain.follows(premises, place));
            case 9:
                return same("followsPlainly" + question, real.followsPlainly(premises, place),
                    plain.followsPlainly(premises, place));
            case 10:
                return same("fewestStages" + question, real.fewestStages(premises, place),
                    plain.fewestStages(premises, place));
            case 11:
                return same("fewestPremises" + question, real.fewestPremises(premises, place),
                    plain.fewestPremises(premises, place));
            case 12:
                return same("relation(" + place + ", " + second + ")", real.relation(place, second),
                    plain.relation(place, second));
            default:
                int counted = number(9);
                return same("count(" + counted + ")", real.count(counted), plain.count(counted));
        }
    }

    /** Mostly just the places that have a claim. */
    private int filledOf(int places) {
        int filled = 0;
        for (int i = 0; i < 5; i++) {
            filled |= plain.claim(i, 2) > 0 ? 1 << i : 0;
        }
        return random.nextInt(10) == 0 ? places : places & filled;
    }
}
