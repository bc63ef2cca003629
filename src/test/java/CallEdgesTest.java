import java.util.function.Consumer;
import java.util.function.ToIntFunction;

/**
 * Each argument and each row of errors of the promises 1 to 25, call by call: the last number that is allowed and
 * the first one that is not, on both sides; the order of the checks; and that a refused call changes nothing.
 */
public final class CallEdgesTest extends Twins {
    public static void main(String[] args) {
        newObject();
        addStage();
        lead();
        leadOrder();
        leadAlready();
        learn();
        forget();
        removeStage();
        removeTheOnlyOne();
        shrinkNone();
        shrinkAlike();
        shrinkNotPossible();
        put();
        putFault();
        putTheSame();
        drop();
        joinPlaces();
        joinHow();
        joinOf24();
        joinOrder();
        type();
        clearText();
        undo();
        keep();
        restore();
        stage();
        lowestAlike();
        alike();
        mostAlike();
        claim();
        lowestWithout();
        claimSizes();
        holds();
        question("follows", StageTruths::follows);
        question("followsPlainly", StageTruths::followsPlainly);
        question("fewestStages", StageTruths::fewestStages);
        question("fewestPremises", StageTruths::fewestPremises);
        follows();
        followsPlainly();
        fewestStages();
        fewestPremises();
        fewestPremisesNotPossible();
        relation();
        count();
        countSets();
        finish();
    }

    private interface Ask {
        int of(StageTruths x, int number);
    }

    private interface Question {
        int of(StageTruths x, int premises, int place);
    }

    /** Numbers that are not among 0 to a last one. */
    private static int[] outside(int last) {
        return new int[] {-1, last + 1, -32, 32, 64, Integer.MIN_VALUE, Integer.MAX_VALUE};
    }

    private static void refusedOutside(String call, Consumer<StageTruths> before, int last, Ask ask, int due) {
        for (int number : outside(last)) {
            refused(call + ": " + number, before, x -> ask.of(x, number), due);
        }
    }

    private static void refusedOutsideAlways(String call, Consumer<StageTruths> before, int last, Ask ask, int due) {
        for (int number : outside(last)) {
            refusedAlways(call + ": " + number, before, x -> ask.of(x, number), due);
        }
    }

    /** A call with a stage is refused with each that is not there, of one stage, of four and of eight. */
    private static void unknownStages(String call, Ask ask) {
        for (int stages : new int[] {1, 4, 8}) {
            refusedOutside(call + " of " + stages + " stages", x -> {
                growChain(x, stages);
                put(x, 0, "a");
            }, stages - 1, ask, UNKNOWN);
        }
    }

    /** A call with a place with a claim is refused with each that is none, or is empty. */
    private static void unknownPlaces(String call, Ask ask) {
        refusedOutsideAlways(call, x -> fill(x, "a", "b", "c", "d", "T"), 4, ask, UNKNOWN);
        for (int empty = 0; empty < 5; empty++) {
            int place = empty;
            refusedAlways(call + ": empty place " + place, x -> {
                fill(x, "a", "b", "c", "d", "T");
                x.drop(place);
            }, x -> ask.of(x, place), UNKNOWN);
        }
    }

    // ---- promise 1: "Creates the stage 0, and an empty shelf."

    private static void newObject() {
        StageTruths x = new StageTruths();
        due("told of a new object", told(x), " [1 0 0 1 1 1 0 ; 1 0; -1; -1; -1; -1; -1]");
        due("no states", x.count(7), 0);
        due("no text", x.count(8), 0);
        due("no history", x.undo(), NONE);
        due("no snapshot", x.restore(), NONE);
        StageTruths y = tree();
        y.learn(0, 0);
        due("each object has a state of its own", told(new StageTruths()), told(x));
    }

    // ---- promise 2: "the number of the new stage; UNKNOWN; FULL if there are 8"

    private static void addStage() {
        unknownStages("addStage", StageTruths::addStage);
        refused("addStage of eight", x -> growChain(x, 8), x -> x.addStage(0), FULL);
        refused("addStage of eight, to the last", x -> growChain(x, 8), x -> x.addStage(7), FULL);
        StageTruths x = new StageTruths();
        growChain(x, 7);
        due("addStage of seven, to the last", x.addStage(6), 7);
        StageTruths y = new StageTruths();
        growChain(y, 7);
        due("addStage of seven, to the first", y.addStage(0), 7);
        due("addStage: led to by the first alone", y.stage(7, 1), 1 + 128);
        due("addStage undone: room again", then(y.undo(), y.addStage(5)), 7);
        due("addStage: all that lead to this one", y.stage(7, 1), 255 - 64);
    }

    // ---- promise 3: "UNKNOWN (from or to); BAD_VALUE if to is not greater than from; NONE if it leads to it already"

    private static void lead() {
        unknownStages("lead from", (x, stage) -> x.lead(stage, 0));
        unknownStages("lead to", (x, stage) -> x.lead(0, stage));
        refused("lead to itself", Twins::growTree, x -> x.lead(3, 3), BAD_VALUE);
        refused("lead one back", Twins::growTree, x -> x.lead(3, 2), BAD_VALUE);
        refused("lead to the first", Twins::growTree, x -> x.lead(3, 0), BAD_VALUE);
        refused("lead of one stage", BARE, x -> x.lead(0, 0), BAD_VALUE);
        due("lead one ahead", tree().lead(2, 3), 1);
        due("lead two ahead", fork(2).lead(0, 2), NONE);
        StageTruths x = sevenApart();
        x.addStage(6);
        due("lead from the first to the last", x.lead(0, 7), 1);
        due("lead to the last but one, which leads to the last", x.lead(1, 6), 2);
        due("lead from the first to the second", x.lead(0, 1), 2);
        due("led to by", x.stage(7, 1), 1 + 2 + 64 + 128);
    }

    /** The stage 0 leads to some others, which lead nowhere. */
    private static StageTruths fork(int others) {
        StageTruths x = new StageTruths();
        for (int i = 0; i < others; i++) {
            x.addStage(0);
        }
        return x;
    }

    private static StageTruths sevenApart() {
        StageTruths x = fork(7);
        x.removeStage(0);
        return x;
    }

    private static void leadOrder() {
        refused("lead: unknown from, less", Twins::growTree, x -> x.lead(4, 1), UNKNOWN);
        refused("lead: unknown from and to, the same", Twins::growTree, x -> x.lead(4, 4), UNKNOWN);
        refused("lead: unknown to, less", Twins::growTree, x -> x.lead(2, -1), UNKNOWN);
        refused("lead: to itself, to which it leads", Twins::growTree, x -> x.lead(1, 1), BAD_VALUE);
        refused("lead: to what leads to it", Twins::growTree, x -> x.lead(3, 1), BAD_VALUE);
    }

    private static void leadAlready() {
        refused("lead: next", Twins::growTree, x -> x.lead(1, 3), NONE);
        refused("lead: behind the next", Twins::growTree, x -> x.lead(0, 3), NONE);
        refused("lead: over seven", x -> growChain(x, 8), x -> x.lead(0, 7), NONE);
        refused("lead: twice", x -> {
            growTree(x);
            x.lead(2, 3);
        }, x -> x.lead(2, 3), NONE);
        StageTruths x = tree();
        x.lead(2, 3);
        x.undo();
        due("lead: undone, then not yet", x.lead(2, 3), 1);
    }

    // ---- promises 4 and 5: "UNKNOWN (stage or fact); NONE if .."

    private static void learn() {
        unknownStages("learn at", (x, stage) -> x.learn(stage, 0));
        refusedOutside("learn fact", BARE, 3, (x, fact) -> x.learn(0, fact), UNKNOWN);
        refused("learn: unknown both", BARE, x -> x.learn(1, 4), UNKNOWN);
        refused("learn again", x -> x.learn(0, 3), x -> x.learn(0, 3), NONE);
        refused("learn at the last, known before", x -> {
            growChain(x, 8);
            x.learn(0, 0);
        }, x -> x.learn(7, 0), NONE);
        refused("learn: unknown fact at a stage that knows all", x -> {
            for (int fact = 0; fact < 4; fact++) {
                x.learn(0, fact);
            }
        }, x -> x.learn(0, 4), UNKNOWN);
        StageTruths x = new StageTruths();
        growChain(x, 8);
        due("learn at the last stage, the last fact", x.learn(7, 3), 128);
        due("learn one before, where it is known behind", x.learn(6, 3), 64 + 128);
        due("learn at the first stage, the first fact", x.learn(0, 0), 255);
    }

    private static void forget() {
        Consumer<StageTruths> all = x -> {
            for (int fact = 0; fact < 4; fact++) {
                x.learn(0, fact);
            }
        };
        for (int stages : new int[] {1, 4, 8}) {
            refusedOutside("forget at, of " + stages, x -> {
                growChain(x, stages);
                all.accept(x);
            }, stages - 1, (x, stage) -> x.forget(stage, 0), UNKNOWN);
        }
        refusedOutside("forget fact", all, 3, (x, fact) -> x.forget(0, fact), UNKNOWN);
        refused("forget what was never known", BARE, x -> x.forget(0, 0), NONE);
        refused("forget what is known just behind", x -> {
            growChain(x, 2);
            x.learn(1, 0);
        }, x -> x.forget(0, 0), NONE);
        refused("forget again", x -> {
            x.learn(0, 2);
            x.forget(0, 2);
        }, x -> x.forget(0, 2), NONE);
        refused("forget before where it was forgotten", x -> {
            growChain(x, 3);
            x.learn(0, 1);
            x.forget(1, 1);
        }, x -> x.forget(0, 1), NONE);
        StageTruths x = new StageTruths();
        growChain(x, 8);
        all.accept(x);
        due("forget at the last but one", x.forget(6, 3), 128);
        due("forget at the last", x.forget(7, 3), 0);
        due("forget at the first", x.forget(0, 0), 254);
        due("the other facts stay", x.stage(0, 2), 2 + 4);
    }

    // ---- promise 6: "how many stages are left; UNKNOWN; NOT_POSSIBLE if it is the only one"

    private static void removeStage() {
        unknownStages("removeStage", StageTruths::removeStage);
        StageTruths x = new StageTruths();
        growChain(x, 8);
        for (int i = 0; i < 4; i++) {
            x.learn(2 * i, i);
        }
        due("remove the last", x.removeStage(7), 7);
        due("those before it stay", x.stage(6, 2), 15);
        due("remove the first", x.removeStage(0), 6);
        due("those behind it come earlier", x.stage(1, 2), 3);
        due("the last is one earlier", x.stage(5, 2), 15);
        due("nothing behind the last", x.stage(6, 2), UNKNOWN);
        due("remove one in the middle", x.removeStage(2), 5);
        due("what led to it leads on", x.stage(0, 0), 31);
        due("what it led to is led to", x.stage(4, 1), 31);
        due("what is led to is the same", x.stage(2, 2), 7);
    }

    private static void removeTheOnlyOne() {
        refused("remove the only one", BARE, x -> x.removeStage(0), NOT_POSSIBLE);
        refused("remove the only one that is left", x -> {
            growTree(x);
            x.learn(3, 1);
            x.removeStage(0);
            x.removeStage(0);
            x.removeStage(0);
        }, x -> x.removeStage(0), NOT_POSSIBLE);
        refused("unknown goes first", BARE, x -> x.removeStage(1), UNKNOWN);
        StageTruths x = new StageTruths();
        x.addStage(0);
        due("remove one of two", x.removeStage(1), 1);
        due("undone", then(x.undo(), x.removeStage(0)), 1);
    }

    // ---- promise 7: "how many are removed; NOT_POSSIBLE if any stage that stays would lead to one with a lower
    // number by that; NONE if no two are alike"

    private static void shrinkNone() {
        refused("shrink one stage", BARE, StageTruths::shrink, NONE);
        refused("shrink two unlike ones", x -> {
            growChain(x, 2);
            x.learn(1, 0);
        }, StageTruths::shrink, NONE);
        refused("shrink eight unlike ones", CallEdgesTest::growLadder, StageTruths::shrink, NONE);
        refused("shrink again", x -> {
            growTree(x);
            x.learn(1, 0);
            x.learn(2, 0);
            x.shrink();
        }, StageTruths::shrink, NONE);
    }

    private static void shrinkAlike() {
        for (int stages = 2; stages <= 8; stages++) {
            StageTruths x = new StageTruths();
            growChain(x, stages);
            due("shrink all of a chain of " + stages, x.shrink(), stages - 1);
            due("one is left", told(x), told(new StageTruths()));
            StageTruths y = new StageTruths();
            growChain(y, stages);
            y.learn(stages - 1, 0);
            due("shrink a chain with a last one of " + stages, y.shrink(), stages == 2 ? NONE : stages - 2);
            due("the first leads to what is left", y.stage(0, 0), 3);
            due("the last is left", y.stage(1, 2), 1);
        }
        // Just what is removed itself would lead back: 2 is alike 0, and 3 is alike 1.
        StageTruths x = new StageTruths();
        x.addStage(0);
        x.addStage(0);
        x.addStage(2);
        x.learn(1, 0);
        x.learn(3, 0);
        due("shrink what would lead back itself", x.shrink(), 2);
        due("what is left of it", told(x), " [2 1 0 2 1 2 0 ; 3 0; 2 1; -1; -1; -1; -1; -1]");
        // 0 and 1 are apart, 0 leads to 2 alone, which is alike 1.
        StageTruths y = new StageTruths();
        y.addStage(0);
        y.addStage(0);
        y.addStage(1);
        y.removeStage(0);
        y.learn(1, 0);
        y.learn(2, 0);
        due("shrink: the first leads to the one that is kept instead", y.shrink(), 1);
        due("what is left of it", told(y), " [2 1 0 2 1 2 0 ; 3 0; 2 1; -1; -1; -1; -1; -1]");
        // 1 leads to 3, which is alike 2: so 1 leads to 2, and so does 0, which leads to 1.
        StageTruths z = new StageTruths();
        z.addStage(0);
        z.addStage(0);
        z.addStage(1);
        z.learn(1, 0);
        z.learn(2, 0);
        z.learn(2, 1);
        z.learn(3, 1);
        due("shrink: to the one that is kept instead", z.shrink(), 1);
        due("what led to the removed one", z.stage(1, 0), 2 + 4);
        due("and what led to that", z.stage(2, 1), 7);
    }

    private static void shrinkNotPossible() {
        refused("shrink: to the one just before", CallEdgesTest::leadBack, StageTruths::shrink, NOT_POSSIBLE);
        refused("shrink: to one far before", x -> {
            for (int stage = 1; stage <= 4; stage++) {
                x.addStage(0);
            }
            x.addStage(4);
            x.learn(1, 0);
            x.learn(1, 1);
            x.learn(2, 2);
            x.learn(3, 3);
            x.learn(4, 1);
            x.learn(5, 0);
        }, StageTruths::shrink, NOT_POSSIBLE);
        refused("shrink: though others could be removed", x -> {
            leadBack(x);
            x.addStage(0);
            x.addStage(0);
        }, StageTruths::shrink, NOT_POSSIBLE);
        StageTruths x = new StageTruths();
        leadBack(x);
        x.forget(3, 1);
        due("shrink: not alike, so nothing leads back", x.shrink(), NONE);
        due("undone, it would", then(x.undo(), x.shrink()), NOT_POSSIBLE);
        due("one the other way round", ahead().shrink(), 1);
    }

    /** 0 leads to 1, which knows a and b, and to 2, which knows b and leads to 3, which is alike 1. */
    private static void leadBack(StageTruths x) {
        x.addStage(0);
        x.addStage(0);
        x.addStage(2);
        x.learn(1, 0);
        x.learn(1, 1);
        x.learn(2, 1);
        x.learn(3, 0);
    }

    /** As leadBack, but the one that is alike has the greater number: 1 leads to 3, which is alike 2. */
    private static StageTruths ahead() {
        StageTruths x = new StageTruths();
        x.addStage(0);
        x.addStage(0);
        x.addStage(1);
        x.learn(2, 0);
        x.learn(2, 1);
        x.learn(1, 1);
        x.learn(3, 0);
        return x;
    }

    // ---- promise 8: "UNKNOWN; -100 minus the fault of the text ..; NONE if the same claim is there already"

    private static void put() {
        refusedOutsideAlways("put", x -> text(x, "a"), 4, StageTruths::put, UNKNOWN);
        refusedOutsideAlways("put of a text with a fault", x -> text(x, "ab"), 4, StageTruths::put, UNKNOWN);
        StageTruths x = new StageTruths();
        growChain(x, 8);
        text(x, "~a");
        due("put on the first", x.put(0), 255);
        due("put on the last", x.put(4), 255);
        due("put: on these alone", x.count(2), 2);
        due("put: the text stays", x.count(8), 2);
        due("put in the middle", x.put(2), 255);
        due("put: four stages told", x.learn(4, 0), 16 + 32 + 64 + 128);
        due("put: no stage where a can come", x.put(2), NONE);
        due("put: nowhere", put(x, 2, "F"), 0);
        due("put: at the last four", put(x, 2, "a"), 16 + 32 + 64 + 128);
        due("put: 25 signs", put(x, 3, "~".repeat(24) + "T"), 255);
        due("put: made of 25, as the limit of 24 is said of join", x.claim(3, 2), 25);
        due("put: made of 24", then(put(x, 3, "~".repeat(23) + "T"), x.claim(3, 2)), 24);
    }

    private static void putFault() {
        for (int length = 0; length <= 30; length++) {
            int many = length;
            refusedAlways("put of " + length + " signs that end too early", x -> {
                put(x, 0, "a");
                text(x, "~".repeat(many));
            }, x -> x.put(0), -100 - length);
            if (length > 0) {
                refusedAlways("put with a fault at " + (length - 1), x -> {
                    put(x, 0, "~a");
                    text(x, "~".repeat(many - 1) + ")");
                }, x -> x.put(0), -100 - length + 1);
            }
        }
    }

    private static void putTheSame() {
        refusedAlways("put the same", x -> put(x, 0, "a&b"), x -> x.put(0), NONE);
        refusedAlways("put the same, written in another way", x -> {
            put(x, 4, "a&b&c|d>T");
            text(x, "(((a&b)&c)|d)>(T)");
        }, x -> x.put(4), NONE);
        refusedAlways("put the same as was joined", x -> {
            fill(x, "a", "b");
            x.join(2, 0, 2, 1);
            text(x, "a>b");
        }, x -> x.put(2), NONE);
        refusedAlways("put with a fault, where a claim is", x -> {
            put(x, 0, "a");
            text(x, "a)");
        }, x -> x.put(0), -101);
        StageTruths x = shelf("a&b", "~a");
        due("put the same elsewhere", put(x, 1, "a&b"), 0);
        due("put another one of as many claims", put(x, 1, "a|b"), 0);
        due("put one that differs at the end", put(x, 1, "a|c"), 0);
        due("put one that goes on", put(x, 1, "a|c|d"), 0);
        due("put after drop", then(x.drop(0), put(x, 0, "a&b")), 0);
        due("put after undo", then(x.undo(), x.put(0)), 0);
    }

    // ---- promise 9: "how many places have a claim then; UNKNOWN"

    private static void drop() {
        unknownPlaces("drop", StageTruths::drop);
        for (int first = 0; first < 5; first++) {
            StageTruths x = shelf("a", "b", "c", "d", "T");
            for (int i = 0; i < 5; i++) {
                int place = (first + i) % 5;
                due("drop " + place, x.drop(place), 4 - i);
                due("drop: it is empty", x.claim(place, 2), UNKNOWN);
                due("drop " + place + " again", x.drop(place), UNKNOWN);
            }
        }
    }

    // ---- promise 10: "UNKNOWN (place, one or other); BAD_VALUE; NOT_POSSIBLE if it would be made of more than 24"

    private static void joinPlaces() {
        refusedOutsideAlways("join on", x -> fill(x, "a", "b"), 4, (x, place) -> x.join(place, 0, 0, 1), UNKNOWN);
        unknownPlaces("join of", (x, one) -> x.join(1, one, 1, (one & 3) == 2 ? 3 : 2));
        unknownPlaces("join with", (x, other) -> x.join(1, (other & 3) == 2 ? 3 : 2, 2, other));
        StageTruths x = shelf("a", "b", "c", "d", "T");
        due("join on the first", x.join(0, 0, 0, 4), 0);
        due("join on the last", x.join(4, 4, 1, 0), 1);
        due("join: the last is changed", x.claim(4, 2), 5);
        due("join on an empty place", then(x.drop(2), x.join(2, 4, 0, 4)), 1);
        due("join of one with itself, on itself", x.join(2, 2, 2, 2), 1);
        due("join: made of both", x.claim(2, 2), 23);
    }

    private static void joinHow() {
        refusedOutsideAlways("join: how", x -> fill(x, "a", "b"), 2, (x, how) -> x.join(2, 0, how, 1), BAD_VALUE);
        String[] joined = {"a&b", "a|b", "a>b"};
        for (int how = 0; how < 3; how++) {
            StageTruths x = new StageTruths();
            growTree(x);
            x.learn(1, 0);
            x.learn(2, 1);
            fill(x, "a", "b");
            due("join: how " + how, x.join(2, 0, how, 1), new int[] {0, 2 + 4 + 8, 4}[how]);
            due("join is " + joined[how], put(x, 2, joined[how]), NONE);
        }
    }

    /** A claim that is made of a number of claims. */
    private static String made(int size) {
        return "~".repeat(size - 1) + "a";
    }

    private static void joinOf24() {
        for (int one = 1; one <= 24; one++) {
            int first = one;
            for (int sum = 24; sum <= 27; sum++) {
                int second = sum - 1 - one;
                if (second < 1) {
                    continue;
                }
                Consumer<StageTruths> before = x -> fill(x, made(first), made(second));
                if (sum > 24) {
                    refusedAlways("join of " + one + " and " + second, before, x -> x.join(2, 0, 0, 1), NOT_POSSIBLE);
                } else {
                    StageTruths x = new StageTruths();
                    before.accept(x);
                    due("join of " + one + " and " + second, value(x.join(2, 0, 0, 1) >= 0), 1);
                    due("join: made of 24", x.claim(2, 2), 24);
                }
            }
        }
        StageTruths x = shelf(made(11), made(1));
        due("join: 23", then(x.join(2, 0, 2, 0), x.claim(2, 2)), 23);
        due("join: 23 and 1 would be 25", x.join(3, 2, 0, 1), NOT_POSSIBLE);
        refusedAlways("join of 30 and 1", y -> fill(y, made(30), "a"), y -> y.join(0, 0, 1, 1), NOT_POSSIBLE);
        refusedAlways("join of 30 and 30", y -> fill(y, made(30)), y -> y.join(1, 0, 2, 0), NOT_POSSIBLE);
    }

    private static void joinOrder() {
        Consumer<StageTruths> full = x -> {
            fill(x, made(20), made(20));
            x.drop(3);
        };
        refusedAlways("join: unknown place, how and size", full, x -> x.join(5, 0, 3, 1), UNKNOWN);
        refusedAlways("join: unknown one, how", full, x -> x.join(2, 3, 3, 1), UNKNOWN);
        refusedAlways("join: unknown other, how", full, x -> x.join(2, 0, -1, 3), UNKNOWN);
        refusedAlways("join: how and size", full, x -> x.join(2, 0, 3, 1), BAD_VALUE);
        refusedAlways("join: size", full, x -> x.join(2, 0, 2, 1), NOT_POSSIBLE);
        StageTruths x = shelf("a", "b");
        due("join: the same claim that is there is an act", then(x.join(2, 0, 0, 1), x.join(2, 0, 0, 1)), 0);
        due("join: the same is recorded", x.count(7), 4);
    }

    // ---- promises 11 and 12: "the length of the text then; FULL if it has 30 characters"; "the length that it had"

    private static void type() {
        for (char c : new char[] {'a', 0, 127, 128, 255, 256, 0xffff}) {
            refusedAlways("type of " + (int) c + " as the 31st", x -> text(x, "(" + "~".repeat(28) + "a"),
                x -> x.type(c), FULL);
            refusedAlways("type of " + (int) c + " behind a claim", x -> text(x, made(30)), x -> x.type(c), FULL);
            StageTruths x = new StageTruths();
            text(x, "~".repeat(29));
            due("type of " + (int) c + " as the 30th", x.type(c), 30);
            due("type of " + (int) c + ": read", x.put(0), c == 'a' ? 1 : -129);
            due("type of " + (int) c + " in a new text", then(x.clearText(), x.type(c)), 1);
            due("type of " + (int) c + ": read", x.put(1), c == 'a' ? 0 : -100);
        }
    }

    private static void clearText() {
        for (int length = 0; length <= 31; length++) {
            StageTruths x = new StageTruths();
            text(x, "T".repeat(length));
            due("clearText of " + length, x.clearText(), Math.min(length, 30));
            due("clearText: empty", x.count(8), 0);
            due("clearText: empty", x.put(0), -100);
            due("clearText again", x.clearText(), 0);
        }
        unchanged("clearText of none", x -> {
            FURNISHED.accept(x);
            x.clearText();
        }, StageTruths::clearText, 0);
    }

    // ---- promises 13 to 15

    /** "the number of states that are left; NONE if the history is empty" */
    private static void undo() {
        unchanged("undo of nothing", BARE, StageTruths::undo, NONE);
        unchanged("undo of nothing, with a snapshot and a text", FORGETFUL, StageTruths::undo, NONE);
        unchanged("undo of nothing, with stages and claims", x -> {
            GROWN.accept(x);
            for (int stage = 0; stage < 4; stage++) {
                x.addStage(stage);
            }
            for (int i = 0; i < 4; i++) {
                x.undo();
            }
        }, StageTruths::undo, NONE);
        unchanged("undo after refused calls alone", x -> {
            x.addStage(1);
            x.lead(0, 0);
            x.learn(0, 4);
            x.forget(0, 0);
            x.removeStage(0);
            x.shrink();
            x.put(0);
            x.drop(0);
            x.join(0, 0, 0, 0);
            x.restore();
            x.type('a');
            x.keep();
        }, StageTruths::undo, NONE);
        StageTruths x = new StageTruths();
        x.learn(0, 1);
        due("undo of the only one", x.undo(), 0);
        due("undo of none", x.undo(), NONE);
        due("undo: an act again", x.learn(0, 2), 1);
        due("undo of the only one again", x.undo(), 0);
        for (int fact = 0; fact < 4; fact++) {
            x.learn(0, fact);
        }
        due("undo of the fourth", x.undo(), 3);
        x.learn(0, 3);
        x.addStage(0);
        due("undo of a fifth", x.undo(), 3);
        due("undo of the third", x.undo(), 2);
        due("undo of the second", x.undo(), 1);
        due("undo of the first that is left", x.undo(), 0);
        due("undo: the oldest was dropped", x.stage(0, 2), 1);
        due("undo: no more", x.undo(), NONE);
    }

    /** "Takes a snapshot of the state, in place of the one that was." */
    private static void keep() {
        for (int stages = 1; stages <= 8; stages++) {
            StageTruths x = new StageTruths();
            growChain(x, stages);
            int states = x.count(7);
            due("keep of " + stages, x.keep(), stages);
            due("keep is no act", x.count(7), states);
            due("keep: restored", x.restore(), stages);
        }
        StageTruths x = new StageTruths();
        growChain(x, 8);
        x.keep();
        for (int i = 0; i < 7; i++) {
            x.removeStage(0);
        }
        due("keep of one in place of eight", x.keep(), 1);
        due("restore of that one", then(x.addStage(0), x.restore()), 1);
        due("the eight are gone", x.stage(1, 0), UNKNOWN);
    }

    /** "Returns the number of stages then; NONE if there is no snapshot." */
    private static void restore() {
        unchanged("restore of none, with a history and a text", x -> {
            growTree(x);
            fill(x, "a", "b", "c", "d", "T");
            x.learn(0, 0);
            text(x, "a|");
        }, StageTruths::restore, NONE);
        StageTruths x = new StageTruths();
        x.keep();
        due("restore of a new object's state", x.restore(), 1);
        due("restore is an act, though nothing became different", x.count(7), 1);
        growChain(x, 8);
        due("restore of one in place of eight", x.restore(), 1);
        due("restore: four states", x.count(7), 4);
        due("restore is undone", then(x.undo(), x.count(0)), 8);
        x.keep();
        x.removeStage(0);
        due("restore of eight", x.restore(), 8);
        due("restore: full then", x.addStage(0), FULL);
    }

    // ---- promise 16: "UNKNOWN; BAD_VALUE"

    private static void stage() {
        for (int what = 0; what < 4; what++) {
            int asked = what;
            unknownStages("stage, " + what, (x, stage) -> x.stage(stage, asked));
        }
        refusedOutside("stage: what", Twins::growTree, 3, (x, what) -> x.stage(3, what), BAD_VALUE);
        refusedOutside("stage: unknown goes first", Twins::growTree, 3, (x, what) -> x.stage(4, what), UNKNOWN);
        StageTruths x = new StageTruths();
        growChain(x, 8);
        x.learn(7, 0);
        int[][] due = {{255, 1, 0, 0}, {128 + 64, 127, 0, 0}, {128, 255, 1, 7}};
        int[] stages = {0, 6, 7};
        for (int i = 0; i < 3; i++) {
            for (int what = 0; what < 4; what++) {
                due("stage(" + stages[i] + ", " + what + ")", x.stage(stages[i], what), due[i][what]);
            }
        }
    }

    /** "3 for the lowest stage that is alike (perhaps itself)" */
    private static void lowestAlike() {
        StageTruths x = new StageTruths();
        growChain(x, 8);
        for (int i = 0; i < 8; i++) {
            due("all alike: the lowest", x.stage(i, 3), 0);
        }
        x.learn(4, 0);
        for (int i = 0; i < 8; i++) {
            due("two kinds: the lowest", x.stage(i, 3), i < 4 ? 0 : 4);
        }
        StageTruths y = new StageTruths();
        growLadder(y);
        for (int i = 0; i < 8; i++) {
            due("all unlike: itself", y.stage(i, 3), i);
        }
    }

    // ---- promise 17

    private static void alike() {
        unknownStages("alike, the one", (x, one) -> x.alike(one, 0));
        unknownStages("alike, the other", (x, other) -> x.alike(0, other));
        due("alike: the only one and itself", new StageTruths().alike(0, 0), 1);
        StageTruths x = new StageTruths();
        growChain(x, 8);
        due("alike: the first and the last", x.alike(0, 7), 1);
        due("alike: the last and the first", x.alike(7, 0), 1);
        x.learn(7, 3);
        due("alike: other facts", x.alike(6, 7), 0);
        due("alike: the same can come", x.alike(0, 6), 1);
        StageTruths y = tree();
        y.learn(3, 0);
        // 2 leads to nothing that knows a: what the one leads to must be found behind the other one, too.
        due("alike: the one leads to more", y.alike(1, 2), 0);
        due("alike: the other way round", y.alike(2, 1), 0);
        due("alike: itself", y.alike(2, 2), 1);
    }

    /**
     * Eight stages of which no two are alike: 7 knows a, 6 leads nowhere, and each other one leads to those from
     * the second one behind it on. One more pair of them is told apart by each look further ahead.
     */
    private static void growLadder(StageTruths x) {
        for (int i = 0; i < 7; i++) {
            x.addStage(0);
        }
        x.removeStage(0);
        x.addStage(5);
        for (int stage = 4; stage >= 0; stage--) {
            x.lead(stage, stage + 2);
            x.lead(stage, stage + 3);
        }
        x.learn(7, 0);
    }

    /** "(The most stages are alike that can be so.)" */
    private static void mostAlike() {
        StageTruths x = new StageTruths();
        growLadder(x);
        due("a ladder: all unlike", x.count(5), 8);
        for (int one = 0; one < 8; one++) {
            for (int other = 0; other < 8; other++) {
                due("a ladder: alike(" + one + ", " + other + ")", x.alike(one, other), value(one == other));
            }
        }
        // Without the difference at its foot all of the ladder is alike, though nothing else was changed.
        due("a ladder without a foot", then(x.forget(7, 0), x.count(5)), 1);
        due("a ladder without a foot: alike", x.alike(0, 7), 1);
        x.undo();
        due("a ladder: 0 and 1 differ for what is far behind alone", x.alike(0, 1), 0);
        due("a ladder: 1 leads to 2, too, so they are alike", then(x.lead(1, 2), x.alike(0, 1)), 1);
        due("a ladder: seven kinds", x.count(5), 7);
    }

    // ---- promise 18

    private static void claim() {
        for (int what = 0; what < 8; what++) {
            int asked = what;
            unknownPlaces("claim, " + what, (x, place) -> x.claim(place, asked));
        }
        refusedOutsideAlways("claim: what", x -> put(x, 0, "a"), 7, (x, what) -> x.claim(0, what), BAD_VALUE);
        refusedOutsideAlways("claim: unknown goes first", x -> x.drop(1), 7, (x, what) -> x.claim(1, what), UNKNOWN);
        StageTruths x = shelf("a", "T", "F", "d", "~~(a|~a)");
        int[][] due = {{0, 0, 1, 1, 1, 0, 0, 1}, {1, NONE, 1, 1, 0, 1, 1, 1}, {0, 0, 1, 1, 0, 0, 0, 1},
            {0, 0, 1, 1, 8, 0, 0, 1}, {1, NONE, 6, 5, 1, 1, 1, 5}};
        for (int place = 0; place < 5; place++) {
            for (int what = 0; what < 8; what++) {
                due("claim(" + place + ", " + what + ")", x.claim(place, what), due[place][what]);
            }
        }
    }

    /** "1 for the lowest stage at which it does not hold (NONE if it holds at all stages)" */
    private static void lowestWithout() {
        unchanged("claim that holds at all stages", x -> put(x, 0, "T"), x -> x.claim(0, 1), NONE);
        for (int without = 0; without <= 7; without++) {
            StageTruths x = sevenApart();
            for (int stage = 0; stage < 7; stage++) {
                if (stage != without) {
                    x.learn(stage, 0);
                }
            }
            put(x, 0, "a");
            due("not at " + without + " of seven", x.claim(0, 1), without == 7 ? NONE : without);
        }
        StageTruths x = new StageTruths();
        growChain(x, 8);
        x.learn(7, 0);
        due("at the last of eight alone", then(put(x, 0, "a"), x.claim(0, 1)), 0);
        due("at all but the first", then(x.learn(1, 0), x.claim(0, 1)), 0);
        due("at all", then(x.learn(0, 0), x.claim(0, 1)), NONE);
    }

    /** "2 for how many claims it is made of .., 3 for how many different ones .., 7 for how deep it is" */
    private static void claimSizes() {
        for (int size = 1; size <= 30; size++) {
            StageTruths x = shelf(made(size));
            due("made of " + size, x.claim(0, 2), size);
            due("different ones of " + size, x.claim(0, 3), size);
            due("deep as " + size, x.claim(0, 7), size);
            due("facts in it", x.claim(0, 4), 1);
        }
        for (int facts = 1; facts <= 15; facts++) {
            StageTruths x = shelf("a" + "&a".repeat(facts - 1), "a" + ">a".repeat(facts - 1),
                "(a)" + "|(a)".repeat(Math.min(facts, 7) - 1));
            due("made of " + facts + " times a", x.claim(0, 2), 2 * facts - 1);
            due("different ones", x.claim(0, 3), facts);
            due("deep", x.claim(0, 7), facts);
            due("made of " + facts + " times a", x.claim(1, 2), 2 * facts - 1);
            due("different ones", x.claim(1, 3), facts);
            due("parentheses do not count", x.claim(2, 2), 2 * Math.min(facts, 7) - 1);
        }
        StageTruths x = shelf("(a&b)&(a&b)", "(a&b)&(b&a)", "~a|~a|~a", "a&b&c&d", "(a>F)|~a");
        int[][] due = {{7, 4, 3, 3}, {7, 5, 3, 3}, {8, 4, 1, 4}, {7, 7, 15, 4}, {6, 5, 1, 3}};
        int[] whats = {2, 3, 4, 7};
        for (int place = 0; place < 5; place++) {
            for (int i = 0; i < 4; i++) {
                due("claim(" + place + ", " + whats[i] + ")", x.claim(place, whats[i]), due[place][i]);
            }
        }
    }

    // ---- promise 19: "1 if it holds there, otherwise 0; UNKNOWN (place or stage)"

    private static void holds() {
        unknownPlaces("holds, place", (x, place) -> x.holds(place, 0));
        unknownStages("holds, stage", (x, stage) -> x.holds(0, stage));
        refusedAlways("holds: unknown both", x -> x.drop(1), x -> x.holds(1, 8), UNKNOWN);
        StageTruths x = new StageTruths();
        growChain(x, 8);
        x.learn(4, 0);
        fill(x, "a", "b", "~b", "~a", "a");
        for (int stage = 0; stage < 8; stage++) {
            due("holds on the first place, at " + stage, x.holds(0, stage), value(stage >= 4));
            due("holds on the last place, at " + stage, x.holds(4, stage), value(stage >= 4));
            due("holds nowhere", x.holds(3, stage), 0);
            due("holds everywhere", x.holds(2, stage), 1);
        }
    }

    // ---- promises 20 to 23: "BAD_VALUE (premises; also if any of these places has no claim); UNKNOWN"

    private static void question(String call, Question question) {
        Consumer<StageTruths> all = x -> fill(x, "a", "b", "c", "d", "a");
        refusedOutsideAlways(call + ": premises", all, 31, (x, premises) -> question.of(x, premises, 0), BAD_VALUE);
        refusedAlways(call + ": 33", all, x -> question.of(x, 33, 0), BAD_VALUE);
        unknownPlaces(call + ": place", (x, place) -> question.of(x, 0, place));
        for (int empty = 0; empty < 5; empty++) {
            int place = empty;
            Consumer<StageTruths> without = all.andThen(x -> x.drop(place));
            int fine = (place + 1) % 5;
            refusedAlways(call + ": the premise " + place + " is empty", without, x -> question.of(x, 1 << place, fine),
                BAD_VALUE);
            refusedAlways(call + ": one of all is empty", without, x -> question.of(x, 31, fine), BAD_VALUE);
            refusedAlways(call + ": bad value goes first", without, x -> question.of(x, 1 << place, place), BAD_VALUE);
            refusedAlways(call + ": bad value goes first", without, x -> question.of(x, 32, 5), BAD_VALUE);
            refusedAlways(call + ": unknown with all others", without, x -> question.of(x, 31 - (1 << place), place),
                UNKNOWN);
            StageTruths x = new StageTruths();
            without.accept(x);
            int others = 31 - (1 << place);
            due(call + ": all others are fine", value(question.of(x, others, fine) > UNKNOWN
                || call.equals("fewestStages")), 1);
        }
        StageTruths x = new StageTruths();
        all.accept(x);
        int[] due = call.equals("follows") || call.equals("followsPlainly") ? new int[] {1, 0}
            : call.equals("fewestStages") ? new int[] {NONE, 1} : new int[] {1, NOT_POSSIBLE};
        due(call + ": all premises", question.of(x, 31, 0), due[0]);
        due(call + ": no premises", question.of(x, 0, 0), due[1]);
        due(call + ": the first place as a premise", question.of(x, 1, 4), due[0]);
        due(call + ": the last place as a premise", question.of(x, 16, 0),
            call.equals("fewestPremises") ? 16 : due[0]);
        due(call + ": all but the ones that count", question.of(x, 14, 4), due[1]);
    }

    private static void follows() {
        StageTruths x = shelf("a", "a>b", "b>c", "c>d", "d");
        for (int premises = 0; premises < 32; premises++) {
            due("follows(" + premises + ", 4)", x.follows(premises, 4), value(premises >= 15));
            due("follows(" + premises + ", 0)", x.follows(premises, 0), premises & 1);
        }
        StageTruths y = shelf(made(30), made(29), "~".repeat(29) + "b", "~".repeat(29) + "T", "~".repeat(28) + "T");
        due("as long as can be: of ~a, not ~~a", y.follows(1, 1), 0);
        due("as long as can be: of ~~a, not ~a", y.follows(2, 0), 0);
        due("as long as can be: of both, all", y.follows(3, 3), 1);
        due("as long as can be: of ~T, all", y.follows(8, 2), 1);
        due("as long as can be: T", y.follows(0, 4), 1);
    }

    private static void followsPlainly() {
        StageTruths x = shelf("~~a", "a", "a|b", "~a>b", "(a>b)>a");
        int[][] due = {{1, 1, 1, 1, 1}, {1, 1, 1, 1, 1}, {0, 0, 1, 1, 0}, {0, 0, 1, 1, 0}, {1, 1, 1, 1, 1}};
        int[][] dueAtAll = {{1, 0, 0, 1, 0}, {1, 1, 1, 1, 1}, {0, 0, 1, 1, 0}, {0, 0, 0, 1, 0}, {1, 0, 0, 1, 1}};
        for (int one = 0; one < 5; one++) {
            for (int other = 0; other < 5; other++) {
                String which = "(" + (1 << one) + ", " + other + ")";
                due("followsPlainly" + which, x.followsPlainly(1 << one, other), due[one][other]);
                due("follows" + which, x.follows(1 << one, other), dueAtAll[one][other]);
            }
        }
    }

    /** "the number of stages, 1 to 3; ..; NONE if there is none with 3 stages or fewer" */
    private static void fewestStages() {
        String[] texts = {"T", "a", "a|~a", "a|(a>b|~b)", "~a|~~a", "a|(a>b|(b>c|~c))", "a>a"};
        int[] fewest = {NONE, 1, 2, 3, 3, NONE, NONE};
        for (int i = 0; i < texts.length; i++) {
            StageTruths x = shelf(texts[i]);
            due("fewestStages of " + texts[i], x.fewestStages(0, 0), fewest[i]);
            due("it follows: " + texts[i], x.follows(0, 0), value(i == 0 || i == 6));
            due("from itself", x.fewestStages(1, 0), NONE);
        }
        // A fact that is known is known at all later stages, of small models, too.
        for (String text : new String[] {"a>~~a|b", "a|b>~~(a|b)", "a&b>~(~a|~b)", "(a|b)&~a>b", "~(a&~a)|b&c"}) {
            due("fewestStages of " + text, shelf(text).fewestStages(0, 0), NONE);
        }
        // The last of two stages must know all facts; the last of three must not know c.
        due("fewestStages: all facts", shelf("~(a&b&c&d)|a").fewestStages(0, 0), 2);
        due("fewestStages: not all facts", shelf("~~c|a|(a>b|~b)").fewestStages(0, 0), 3);
        due("fewestStages: all facts, three stages", shelf("a|(a>b|~(b&c&d))").fewestStages(0, 0), 3);
        due("fewestStages: two last stages, all facts", shelf("~(a&b&c&d)|~~d").fewestStages(0, 0), 3);
        // The premise leaves chains alone, so that three in a row are needed; then it leaves forks alone.
        StageTruths x = shelf("(a>b)|(b>a)", "a|(a>b|~b)", "~b|~~b", "~a|~~a", "b|(b>~a|~~a)");
        due("with chains alone", x.fewestStages(1, 1), 3);
        due("with what is before one last stage", x.fewestStages(4, 1), 3);
        due("two last stages", x.fewestStages(0, 3), 3);
        due("two last stages, not with chains", x.fewestStages(1, 3), 3);
        StageTruths y = shelf("a", "b", "c", "d", "a&b&c&d");
        for (int premises = 0; premises < 32; premises++) {
            due("fewestStages(" + premises + ", 4)", y.fewestStages(premises, 4), premises >= 15 ? NONE : 1);
        }
    }

    /** "these premises, of several sets of as few the least number; ..; NOT_POSSIBLE if it does not follow from all" */
    private static void fewestPremises() {
        StageTruths x = shelf("a", "a>b", "b>c", "c>d", "d");
        due("all four are needed", x.fewestPremises(15, 4), 15);
        for (int premises = 0; premises < 15; premises++) {
            due("one less than four", x.fewestPremises(premises, 4), NOT_POSSIBLE);
        }
        for (int premises = 16; premises < 32; premises++) {
            due("itself is enough", x.fewestPremises(premises, 4), 16);
        }
        put(x, 4, "a>a");
        for (int premises = 0; premises < 32; premises++) {
            due("none is needed", x.fewestPremises(premises, 4), 0);
        }
        StageTruths y = shelf("a", "b", "b>c", "a>c", "c");
        due("two sets of two: the least", y.fewestPremises(15, 4), 6);
        due("one set of two", y.fewestPremises(13, 4), 9);
        StageTruths z = shelf("a", "a>c", "c|F", "c&T", "c");
        due("a set of one before a lesser one of two", z.fewestPremises(7, 4), 4);
        due("of two sets of one the least", z.fewestPremises(15, 4), 4);
        due("of three sets of one the least", z.fewestPremises(31, 4), 4);
        due("the greater one alone", z.fewestPremises(27, 4), 8);
        due("a set of two", z.fewestPremises(3, 4), 3);
        StageTruths w = shelf("a", "b", "c", "a|b|c", "d|T");
        due("nothing needed of what is there", w.fewestPremises(15, 4), 0);
        StageTruths v = shelf("a|b", "a>d", "b>d", "~c", "d");
        due("three of four", v.fewestPremises(15, 4), 7);
    }

    private static void fewestPremisesNotPossible() {
        refusedAlways("fewestPremises: it does not follow from all", x -> fill(x, "~~a", "a", "a|b"),
            x -> x.fewestPremises(5, 1), NOT_POSSIBLE);
        refusedAlways("fewestPremises: it does not follow from none", x -> put(x, 4, "c"),
            x -> x.fewestPremises(0, 4), NOT_POSSIBLE);
    }

    // ---- promise 24

    private static void relation() {
        unknownPlaces("relation, the one", (x, one) -> x.relation(one, (one & 3) == 2 ? 3 : 2));
        unknownPlaces("relation, the other", (x, other) -> x.relation((other & 3) == 2 ? 3 : 2, other));
        refusedAlways("relation: unknown both", x -> {
            x.drop(0);
            x.drop(1);
        }, x -> x.relation(0, 1), UNKNOWN);
        StageTruths x = shelf("a", "a|b", "b", "a|a", "~~a");
        int[][] due = {{3, 1, 0, 3, 1}, {2, 3, 2, 2, 0}, {0, 1, 3, 0, 0}, {3, 1, 0, 3, 1}, {2, 0, 0, 2, 3}};
        for (int one = 0; one < 5; one++) {
            for (int other = 0; other < 5; other++) {
                due("relation(" + one + ", " + other + ")", x.relation(one, other), due[one][other]);
            }
        }
        due("relation: plainly the same, but not at all stages", x.followsPlainly(16, 0), 1);
    }

    // ---- promise 25

    private static void count() {
        refusedOutsideAlways("count: what", Twins::growTree, 8, StageTruths::count, BAD_VALUE);
        for (int stages = 1; stages <= 8; stages++) {
            StageTruths x = new StageTruths();
            growChain(x, stages);
            due("stages of a chain", x.count(0), stages);
            due("pairs of a chain", x.count(1), stages * (stages - 1) / 2);
            due("last stages of a chain", x.count(3), 1 << stages - 1);
            due("first stages of a chain", x.count(4), 1);
            due("unlike stages of a chain", x.count(5), 1);
            due("unlike stages with another one", then(x.learn(stages - 1, 0), x.count(5)), Math.min(stages, 2));
            due("facts known at all stages", x.count(6), value(stages == 1));
            StageTruths y = fork(stages - 1);
            due("pairs of a fork", y.count(1), stages - 1);
            due("last stages of a fork", y.count(3), stages == 1 ? 1 : (1 << stages) - 2);
            due("first stages of a fork", y.count(4), 1);
        }
    }

    private static void countSets() {
        StageTruths x = sevenApart();
        due("pairs of stages apart", x.count(1), 0);
        due("last stages of stages apart", x.count(3), 127);
        due("first stages of stages apart", x.count(4), 127);
        StageTruths y = new StageTruths();
        for (int fact = 0; fact < 4; fact++) {
            y.learn(0, fact);
            due("facts known at all stages", y.count(6), (2 << fact) - 1);
        }
        y.addStage(0);
        due("facts known at all stages, one more stage", y.count(6), 15);
        due("facts known at all but the first", then(y.forget(0, 3), y.count(6)), 7);
        due("facts known at none", then(y.forget(1, 3), y.count(6)), 7);
        due("states", y.count(7), 4);
        due("places with claims", y.count(2), 0);
        for (int place = 0; place < 5; place++) {
            put(y, place, "a");
            due("places with claims", y.count(2), place + 1);
        }
        due("length of the text", y.count(8), 1);
        due("length of no text", then(y.clearText(), y.count(8)), 0);
    }
}
