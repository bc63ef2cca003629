/** Each promise by hand: what is ordinary, the edges that the document names, and what is wrong. */
public final class PromisesTest extends Checks {
    private static final int[] WRONG = {-1, Integer.MIN_VALUE, Integer.MAX_VALUE, -33};

    public static void main(String[] args) {
        newObject();
        addStage();
        lead();
        learn();
        forget();
        removeStage();
        shrink();
        put();
        faults();
        readings();
        drop();
        join();
        typeAndClear();
        undo();
        keepAndRestore();
        stage();
        alike();
        claim();
        holds();
        follows();
        followsPlainly();
        fewestStages();
        fewestPremises();
        relation();
        count();
        finish();
    }

    // ---- promise 1

    private static void newObject() {
        due("UNKNOWN", StageTruths.UNKNOWN, -1);
        due("BAD_VALUE", StageTruths.BAD_VALUE, -2);
        due("FULL", StageTruths.FULL, -3);
        due("NOT_POSSIBLE", StageTruths.NOT_POSSIBLE, -4);
        due("NONE", StageTruths.NONE, -5);
        StageTruths x = new StageTruths();
        int[] counts = {1, 0, 0, 1, 1, 1, 0, 0, 0};
        for (int i = 0; i < counts.length; i++) {
            due("new: count(" + i + ")", x.count(i), counts[i]);
        }
        due("new: stage(0, 0)", x.stage(0, 0), 1);
        due("new: stage(0, 1)", x.stage(0, 1), 1);
        due("new: stage(0, 2)", x.stage(0, 2), 0);
        due("new: stage(0, 3)", x.stage(0, 3), 0);
        for (int i = 0; i < 5; i++) {
            due("new: claim", x.claim(i, 2), UNKNOWN);
        }
        due("new: undo", x.undo(), NONE);
        due("new: restore", x.restore(), NONE);
        due("new: clearText", x.clearText(), 0);
    }

    // ---- promise 2

    private static void addStage() {
        StageTruths x = new StageTruths();
        x.learn(0, 2);
        due("addStage(0)", x.addStage(0), 1);
        x.learn(1, 0);
        due("addStage(1)", x.addStage(1), 2);
        due("addStage: from afar", x.stage(0, 0), 7);
        due("addStage: led to by all before", x.stage(2, 1), 7);
        due("addStage: facts", x.stage(2, 2), 5);
        due("addStage(0)", x.addStage(0), 3);
        due("addStage: not led to by others", x.stage(3, 1), 9);
        due("addStage: facts of 0", x.stage(3, 2), 4);
        due("addStage: 4 states", x.count(7), 4);
        for (int i = 4; i < 8; i++) {
            due("addStage", x.addStage(3), i);
        }
        due("addStage: full", x.addStage(0), FULL);
        due("addStage: unknown goes first", x.addStage(8), UNKNOWN);
        due("addStage: full changes nothing", x.count(0), 8);
        for (int stage : WRONG) {
            due("addStage(" + stage + ")", x.addStage(stage), UNKNOWN);
        }
        due("addStage is undone", x.undo(), 3);
        due("addStage is undone", x.count(0), 7);
    }

    // ---- promise 3

    private static void lead() {
        StageTruths x = tree();
        x.addStage(2);
        x.learn(1, 0);
        x.learn(2, 1);
        due("lead(1, 2)", x.lead(1, 2), 2);
        due("lead: to all behind", x.stage(1, 0), 2 + 4 + 8 + 16);
        due("lead: facts", x.stage(2, 2), 3);
        due("lead: facts of all behind", x.stage(4, 2), 3);
        due("lead: not back", x.stage(2, 0), 4 + 16);
        due("lead: already", x.lead(1, 4), NONE);
        due("lead: already, from 0", x.lead(0, 4), NONE);
        due("lead: 3 to 4", x.lead(3, 4), 1);
        due("lead(3, 3)", x.lead(3, 3), BAD_VALUE);
        due("lead(4, 3)", x.lead(4, 3), BAD_VALUE);
        due("lead(2, 1)", x.lead(2, 1), BAD_VALUE);
        due("lead(5, 1)", x.lead(5, 1), UNKNOWN);
        due("lead(1, 5)", x.lead(1, 5), UNKNOWN);
        for (int stage : WRONG) {
            due("lead(" + stage + ", 1)", x.lead(stage, 1), UNKNOWN);
            due("lead(1, " + stage + ")", x.lead(1, stage), UNKNOWN);
        }
        due("lead: recorded", x.count(7), 4);
        due("lead is undone", x.undo(), 3);
        due("lead is undone", x.stage(3, 0), 8);
        due("lead is undone", x.undo(), 2);
        due("lead is undone", x.stage(2, 2), 2);

        StageTruths y = new StageTruths();
        y.addStage(0);
        y.addStage(0);
        y.removeStage(0);
        y.addStage(0);
        y.addStage(1);
        // 0 leads to 2, and 1 to 3.
        y.learn(2, 3);
        due("lead(2, 3) with one before", y.lead(2, 3), 2);
        due("lead: what leads to it", y.stage(3, 1), 15);
        due("lead: facts of the end", y.stage(3, 2), 8);
        due("lead: 1 knows nothing of it", y.stage(1, 2), 0);
    }

    // ---- promise 4

    private static void learn() {
        StageTruths x = tree();
        due("learn(1, 3)", x.learn(1, 3), 2 + 8);
        due("learn: again", x.learn(1, 3), NONE);
        due("learn: behind", x.learn(3, 3), NONE);
        due("learn(2, 3)", x.learn(2, 3), 2 + 4 + 8);
        due("learn(0, 0)", x.learn(0, 0), 15);
        due("learn: facts", x.stage(3, 2), 9);
        due("learn: fact 4", x.learn(0, 4), UNKNOWN);
        due("learn: stage 4", x.learn(4, 0), UNKNOWN);
        for (int it : WRONG) {
            due("learn(" + it + ", 0)", x.learn(it, 0), UNKNOWN);
            due("learn(0, " + it + ")", x.learn(0, it), UNKNOWN);
        }
        due("learn is undone", x.undo(), 3);
        due("learn is undone", x.stage(0, 2), 0);
    }

    // ---- promise 5

    private static void forget() {
        StageTruths x = tree();
        x.learn(0, 1);
        x.learn(0, 2);
        due("forget(1, 1)", x.forget(1, 1), 4 + 8);
        due("forget: not behind", x.stage(3, 2), 6);
        due("forget: before", x.stage(0, 2), 4);
        due("forget: again", x.forget(1, 1), NONE);
        due("forget: before, again", x.forget(0, 1), NONE);
        due("forget(3, 2)", x.forget(3, 2), 4);
        due("forget: fact 4", x.forget(0, 4), UNKNOWN);
        due("forget: stage 4", x.forget(4, 0), UNKNOWN);
        for (int it : WRONG) {
            due("forget(" + it + ", 0)", x.forget(it, 0), UNKNOWN);
            due("forget(0, " + it + ")", x.forget(0, it), UNKNOWN);
        }
        due("forget is undone", x.undo(), 3);
        due("forget is undone", x.stage(3, 2), 6);
    }

    // ---- promise 6

    private static void removeStage() {
        StageTruths x = tree();
        x.learn(3, 0);
        x.learn(2, 1);
        due("removeStage(1)", x.removeStage(1), 3);
        due("removeStage: leads on", x.stage(0, 0), 7);
        due("removeStage: 2 is 1", x.stage(1, 2), 2);
        due("removeStage: 3 is 2", x.stage(2, 2), 1);
        due("removeStage: 2 is led to", x.stage(2, 1), 5);
        due("removeStage: gone", x.stage(3, 0), UNKNOWN);
        due("removeStage(3)", x.removeStage(3), UNKNOWN);
        for (int it : WRONG) {
            due("removeStage(" + it + ")", x.removeStage(it), UNKNOWN);
        }
        due("removeStage(0)", x.removeStage(0), 2);
        due("removeStage: two first ones", x.count(4), 3);
        due("removeStage(1)", x.removeStage(1), 1);
        due("removeStage: the only one", x.removeStage(0), NOT_POSSIBLE);
        due("removeStage: unknown goes first", x.removeStage(1), UNKNOWN);
        due("removeStage: left", x.stage(0, 2), 2);
        due("removeStage is undone", x.undo(), 3);
        due("removeStage is undone", x.undo(), 2);
        due("removeStage is undone", x.undo(), 1);
        due("removeStage is undone", x.stage(1, 0), 2 + 8);
    }

    // ---- promise 7

    private static void shrink() {
        StageTruths x = tree();
        due("shrink: all alike", x.shrink(), 3);
        due("shrink: one left", x.count(0), 1);
        due("shrink: none", x.shrink(), NONE);
        due("shrink: one state more", x.count(7), 4);
        due("shrink is undone", x.undo(), 3);
        due("shrink is undone", x.count(1), 4);
        x.learn(3, 0);
        x.learn(2, 0);
        // 0 and 1 are alike, 2 and 3 too.
        due("shrink: two", x.shrink(), 2);
        due("shrink: 0 leads to what was 2", x.stage(0, 0), 3);
        due("shrink: facts", x.stage(1, 2), 1);
        due("shrink: no more", x.count(0), 2);

        StageTruths y = new StageTruths();
        y.addStage(0);
        y.addStage(0);
        y.addStage(2);
        y.learn(1, 0);
        y.learn(2, 1);
        y.learn(3, 0);
        // 1 knows a; 2 knows b and leads to 3, which knows both.
        due("shrink: no two alike", y.shrink(), NONE);
        y.learn(1, 1);
        due("shrink: 1 and 3 are alike", y.alike(1, 3), 1);
        int states = y.count(7);
        due("shrink: 2 would lead to 1", y.shrink(), NOT_POSSIBLE);
        due("shrink: nothing changed", y.count(0), 4);
        due("shrink: nothing recorded", y.count(7), states);
    }

    // ---- promise 8, the readings too

    private static void put() {
        StageTruths x = tree();
        x.learn(1, 0);
        x.learn(2, 1);
        due("put a", put(x, 0, "a"), 2 + 8);
        due("put ~a", put(x, 1, "~a"), 4);
        due("put a|~a", put(x, 2, "a|~a"), 2 + 4 + 8);
        due("put ~a>b", put(x, 3, "~a>b"), 15);
        due("put T", put(x, 4, "T"), 15);
        due("put F in place of T", put(x, 4, "F"), 0);
        due("put: the text stays", x.put(0), 0);
        due("put: the text stays", x.count(8), 1);
        due("put: recorded", x.count(7), 4);
        text(x, "~~b");
        due("put(5)", x.put(5), UNKNOWN);
        for (int it : WRONG) {
            due("put(" + it + ")", x.put(it), UNKNOWN);
        }
        x.clearText();
        due("put: no text", x.put(0), -100);
        due("put: unknown goes first", x.put(5), UNKNOWN);
        due("put: nothing changed by faults", x.claim(0, 2), 1);

        StageTruths y = shelf("a&b", "~a", "a&b&c", "a>b>c");
        int states = y.count(7);
        due("put: (a&b) is the same", put(y, 0, "(a&b)"), NONE);
        due("put: (~(a)) is the same", put(y, 1, "(~(a))"), NONE);
        due("put: (a&b)&c is the same", put(y, 2, "(a&b)&c"), NONE);
        due("put: a>(b>c) is the same", put(y, 3, "a>(b>c)"), NONE);
        due("put: nothing recorded", y.count(7), states);
        due("put: on an empty place it is not", put(y, 4, "a&b"), 0);
        due("put: b&a is not", put(y, 0, "b&a"), 0);
        due("put: a>F is not ~a", put(y, 1, "a>F"), 1);
        due("put: a&(b&c) is not", put(y, 2, "a&(b&c)"), 0);
        due("put: (a>b)>c is not", put(y, 3, "(a>b)>c"), 0);
        due("put is undone", y.undo(), 3);
        due("put is undone", put(y, 3, "a>b>c"), NONE);
    }

    private static void faults() {
        String[] texts = {"", "e", "a", "A", "t", " a", "a ", "ab", "a&", "a&&", "&a", "|a", ">a", "a~", "a(",
            "a)", "(a", "()", "(a))", "((a)", "~", "~)", "a>", "a|>b", "a&b)", "T F", "TF", "a>b>", "a~b",
            "((((((a))))))", "(((((((a)", "~((((((~(", "((((((a&(", "(a)&((((((b", "(a)(b)", "(a)>((((((b))))))",
            "(a)>(((((((b", "a&b|c>d", "\u0161a", "a\u00e9", "a>b|(c&d)", "a>b|(c&d", "(a|b)c"};
        int[] due = {0, 0, -1, 0, 0, 0, 1, 1, 2, 2, 0, 0, 0, 1, 1,
            1, 2, 1, 3, 4, 1, 1, 2, 2, 3, 1, 1, 4, 1,
            -1, 6, 8, 8, 11, 3, -1,
            10, -1, 0, 1, -1, 8, 5};
        for (int i = 0; i < texts.length; i++) {
            StageTruths x = new StageTruths();
            int got = put(x, 0, texts[i]);
            due("put of \"" + texts[i] + "\"", got < 0 ? -100 - got : -1, due[i]);
            due("put of \"" + texts[i] + "\": recorded", x.count(7), value(due[i] < 0));
            due("put of \"" + texts[i] + "\": there", value(x.claim(0, 2) > 0), value(due[i] < 0));
        }
        StageTruths x = new StageTruths();
        text(x, "a&a&a&a&a&a&a&a&a&a&a&a&a&a&a&");
        due("put of 30 characters that end too early", x.put(0), -130);
        due("put of 30 that can be read", put(x, 0, "~~~~~~~~~~~~~~~~~~~~~~~~~~~~~a"), 1);
        due("put of 30: made of 30", x.claim(0, 2), 30);
        due("put of 30: as deep", x.claim(0, 7), 30);
    }

    /** Each text and the same one with all parentheses. */
    private static void readings() {
        String[] same = {"a>b>c", "a>(b>c)", "a|b|c", "(a|b)|c", "a&b&c", "(a&b)&c", "a|b&c", "a|(b&c)",
            "a&b|c", "(a&b)|c", "a>b|c", "a>(b|c)", "a|b>c", "(a|b)>c", "~a&b", "(~a)&b", "~a>b", "(~a)>b",
            "~~a|b", "(~(~a))|b", "~(a|b)", "(~(a|b))", "a&b>c|d&a", "(a&b)>(c|(d&a))",
            "a|b|c&d&a>b>c|d", "((a|b)|((c&d)&a))>(b>(c|d))", "(a>b)>c", "((a>b)>(c))", "~(a>b)>~c>d",
            "(~(a>b))>((~c)>d)"};
        for (int i = 0; i + 1 < same.length; i += 2) {
            StageTruths x = shelf(same[i]);
            due(same[i] + " and " + same[i + 1], put(x, 0, same[i + 1]), NONE);
        }
    }

    // ---- promise 9

    private static void drop() {
        StageTruths x = shelf("a", "b", "c");
        due("drop(1)", x.drop(1), 2);
        due("drop: empty then", x.claim(1, 0), UNKNOWN);
        due("drop: the others stay", x.claim(2, 4), 4);
        due("drop: again", x.drop(1), UNKNOWN);
        due("drop(3)", x.drop(3), UNKNOWN);
        due("drop(5)", x.drop(5), UNKNOWN);
        for (int it : WRONG) {
            due("drop(" + it + ")", x.drop(it), UNKNOWN);
        }
        due("drop: recorded", x.count(7), 4);
        due("drop(0)", x.drop(0), 1);
        due("drop(2)", x.drop(2), 0);
        due("drop is undone", x.undo(), 3);
        due("drop is undone", x.count(2), 1);
    }

    // ---- promise 10

    private static void join() {
        StageTruths x = new StageTruths();
        x.addStage(0);
        x.addStage(0);
        x.learn(1, 0);
        x.learn(2, 1);
        put(x, 0, "a");
        put(x, 1, "b");
        due("join &", x.join(2, 0, 0, 1), 0);
        due("join & is a&b", put(x, 2, "a&b"), NONE);
        due("join |", x.join(2, 0, 1, 1), 2 + 4);
        due("join | is a|b", put(x, 2, "a|b"), NONE);
        due("join >", x.join(2, 0, 2, 1), 4);
        due("join > is a>b", put(x, 2, "a>b"), NONE);
        due("join with itself, on itself", x.join(2, 2, 2, 2), 7);
        due("join with itself", put(x, 2, "(a>b)>(a>b)"), NONE);
        due("join: how 3", x.join(2, 0, 3, 1), BAD_VALUE);
        due("join: how -1", x.join(2, 0, -1, 1), BAD_VALUE);
        due("join: on 5", x.join(5, 0, 0, 1), UNKNOWN);
        due("join: of an empty place", x.join(2, 3, 0, 1), UNKNOWN);
        due("join: with an empty place", x.join(2, 0, 0, 4), UNKNOWN);
        due("join: unknown goes first", x.join(2, 0, 3, 4), UNKNOWN);
        for (int it : WRONG) {
            due("join(" + it + ", ..)", x.join(it, 0, 0, 1), UNKNOWN);
            due("join(.., " + it + ", ..)", x.join(2, it, 0, 1), UNKNOWN);
            due("join(.., " + it + ")", x.join(2, 0, 0, it), UNKNOWN);
            due("join: how " + it, x.join(2, 0, it, 1), BAD_VALUE);
        }
        due("join: on an empty place", x.join(4, 0, 0, 0), 2);
        due("join is undone", x.undo(), 3);
        due("join is undone", x.claim(4, 0), UNKNOWN);
        due("join: the same again is an act", x.join(4, 1, 1, 1) + x.join(4, 1, 1, 1), 8);
        due("join: the same again is an act", x.undo(), 3);
        due("join: the same again is an act", x.claim(4, 2), 3);

        StageTruths y = shelf("a&a&a&a&a&a", "~~a&a&a&a&a", "~a&a&a&a&a&a");
        due("join: 11 and 12 are made of 24", y.join(3, 0, 2, 2), 1);
        due("join: 24", y.claim(3, 2), 24);
        due("join: 12 and 12 would be 25", y.join(4, 2, 2, 2), NOT_POSSIBLE);
        due("join: 24 and 11 would be 36", y.join(4, 3, 0, 0), NOT_POSSIBLE);
        due("join: bad value goes first", y.join(4, 3, 4, 0), BAD_VALUE);
        due("join: nothing recorded", y.count(7), 4);
        due("join: nothing changed", y.claim(4, 2), UNKNOWN);
    }

    // ---- promises 11 and 12

    private static void typeAndClear() {
        StageTruths x = new StageTruths();
        due("clearText: empty", x.clearText(), 0);
        for (int i = 1; i <= 30; i++) {
            due("type", x.type((char) (i * 2179)), i);
        }
        due("type: full", x.type('a'), FULL);
        due("type: full", x.count(8), 30);
        due("type: any character", x.put(0), -100);
        due("clearText", x.clearText(), 30);
        due("clearText: empty then", x.count(8), 0);
        due("type: after that", x.type('~'), 1);
        due("type: behind", x.type('c'), 2);
        due("type: in order", x.put(0), 1);
        due("type: no act", x.count(7), 1);
        due("undo leaves the text", x.undo(), 0);
        due("undo leaves the text", x.count(8), 2);
        due("clearText: two", x.clearText(), 2);
        due("clearText: no act", x.undo(), NONE);
    }

    // ---- promise 13

    private static void undo() {
        StageTruths x = new StageTruths();
        due("undo: nothing", x.undo(), NONE);
        x.learn(0, 0);
        x.learn(0, 1);
        x.learn(0, 2);
        due("undo", x.undo(), 2);
        due("undo: state", x.stage(0, 2), 3);
        due("undo: once more", x.undo(), 1);
        due("undo: state", x.stage(0, 2), 1);
        due("undo: the last", x.undo(), 0);
        due("undo: state", x.stage(0, 2), 0);
        due("undo: nothing left", x.undo(), NONE);
        for (int i = 1; i < 8; i++) {
            x.addStage(i - 1);
        }
        due("undo: four at most", x.count(7), 4);
        due("undo", x.undo() + x.undo() + x.undo(), 6);
        due("undo", x.undo(), 0);
        due("undo: the oldest were dropped", x.count(0), 4);
        due("undo: nothing left", x.undo(), NONE);
        due("undo: nothing changed", x.count(1), 6);
        put(x, 3, "a>b");
        x.addStage(0);
        put(x, 3, "b");
        due("undo: the shelf", x.undo(), 2);
        due("undo: the shelf", x.claim(3, 2), 3);
        x.undo();
        due("undo: an empty place", x.undo(), 0);
        due("undo: an empty place", x.claim(3, 2), UNKNOWN);
    }

    // ---- promises 14 and 15

    private static void keepAndRestore() {
        StageTruths x = tree();
        put(x, 1, "a|b");
        x.learn(3, 1);
        due("keep", x.keep(), 4);
        due("keep: no act", x.count(7), 4);
        x.removeStage(0);
        put(x, 1, "c");
        x.drop(1);
        x.undo();
        due("restore", x.restore(), 4);
        due("restore: stages", x.stage(0, 0), 15);
        due("restore: facts", x.stage(3, 2), 2);
        due("restore: shelf", put(x, 1, "a|b"), NONE);
        due("restore: an act", x.undo(), 3);
        due("restore is undone", x.count(0), 3);
        due("restore is undone", x.claim(1, 4), 4);
        due("restore: the snapshot stays", x.restore(), 4);
        due("restore: again, still an act", x.restore(), 4);
        due("restore: four at most", x.count(7), 4);
        x.learn(0, 3);
        due("keep: in place of the other one", x.keep(), 4);
        x.forget(0, 3);
        due("restore", x.restore(), 4);
        due("restore: the new one", x.count(6), 8);
        x.learn(0, 2);
        due("undo leaves the snapshot", x.undo(), 3);
        x.removeStage(3);
        due("undo leaves the snapshot", x.restore(), 4);
        StageTruths y = new StageTruths();
        due("restore: none", y.restore(), NONE);
        due("restore: no act then", y.count(7), 0);
    }

    // ---- promise 16

    private static void stage() {
        StageTruths x = tree();
        x.learn(2, 1);
        x.learn(3, 1);
        int[][] due = {{15, 1, 0, 0}, {10, 3, 0, 0}, {4, 5, 2, 2}, {8, 11, 2, 2}};
        for (int i = 0; i < 4; i++) {
            for (int what = 0; what < 4; what++) {
                due("stage(" + i + ", " + what + ")", x.stage(i, what), due[i][what]);
            }
            due("stage(" + i + ", 4)", x.stage(i, 4), BAD_VALUE);
        }
        for (int it : WRONG) {
            due("stage(0, " + it + ")", x.stage(0, it), BAD_VALUE);
            due("stage(" + it + ", 0)", x.stage(it, 0), UNKNOWN);
            due("stage(4, " + it + ")", x.stage(4, it), UNKNOWN);
        }
    }

    // ---- promise 17

    private static void alike() {
        StageTruths x = tree();
        due("alike: no facts anywhere", x.alike(0, 3), 1);
        x.learn(3, 0);
        due("alike: itself", x.alike(1, 1), 1);
        due("alike: 0 leads to 2, too", x.alike(0, 1), 0);
        due("alike: 1 leads to a", x.alike(1, 2), 0);
        due("alike: the other way round", x.alike(2, 1), 0);
        x.learn(2, 0);
        due("alike: two last stages", x.alike(2, 3), 1);
        due("alike: 0 and 1 then", x.alike(0, 1), 1);
        due("alike: other facts", x.alike(1, 3), 0);
        due("alike(4, 0)", x.alike(4, 0), UNKNOWN);
        due("alike(0, 4)", x.alike(0, 4), UNKNOWN);
        for (int it : WRONG) {
            due("alike(" + it + ", 0)", x.alike(it, 0), UNKNOWN);
            due("alike(0, " + it + ")", x.alike(0, it), UNKNOWN);
        }

        // A difference that shows up at the end of two chains only.
        StageTruths y = new StageTruths();
        y.addStage(0);
        y.addStage(1);
        y.addStage(0);
        y.addStage(3);
        y.learn(1, 0);
        y.learn(3, 0);
        due("alike: chains", y.alike(1, 3), 1);
        y.learn(2, 1);
        due("alike: chains that end otherwise", y.alike(1, 3), 0);
        y.learn(4, 1);
        due("alike: chains that end so, too", y.alike(1, 3), 1);
        due("alike: the lowest", y.stage(4, 3), 2);
        due("alike: nothing changed", y.count(7), 4);
    }

    // ---- promise 18

    private static void claim() {
        StageTruths x = tree();
        x.learn(1, 0);
        x.learn(3, 1);
        String[] texts = {"a", "T", "~a>F", "a&b|a&b", "(d>d)&~(c>c)", "b|~b", "~~(b|~b)", "(a>F)>~a", "F"};
        int[][] due = {
            {10, 0, 1, 1, 1, 0, 0, 1}, {15, NONE, 1, 1, 0, 1, 1, 1}, {10, 0, 4, 4, 1, 0, 0, 3},
            {8, 0, 7, 4, 3, 0, 0, 3}, {0, 0, 8, 6, 12, 0, 0, 4}, {12, 0, 4, 3, 2, 0, 1, 3},
            {15, NONE, 6, 5, 2, 1, 1, 5}, {15, NONE, 6, 5, 1, 1, 1, 3}, {0, 0, 1, 1, 0, 0, 0, 1}};
        for (int i = 0; i < texts.length; i++) {
            put(x, 2, texts[i]);
            for (int what = 0; what < 8; what++) {
                due("claim of " + texts[i] + ", " + what, x.claim(2, what), due[i][what]);
            }
            due("claim of " + texts[i] + ", 8", x.claim(2, 8), BAD_VALUE);
        }
        for (int it : WRONG) {
            due("claim(" + it + ", 0)", x.claim(it, 0), UNKNOWN);
            due("claim(2, " + it + ")", x.claim(2, it), BAD_VALUE);
            due("claim(0, " + it + ")", x.claim(0, it), UNKNOWN);
        }
        due("claim(5, 0)", x.claim(5, 0), UNKNOWN);
        x.learn(0, 0);
        put(x, 0, "a&(b|c)");
        due("claim: not at 0 but elsewhere", x.claim(0, 1), 0);
        put(x, 0, "b>c");
        due("claim: not at 0 by what is behind", x.claim(0, 0), 4);
        x.forget(3, 0);
        put(x, 0, "~~a");
        due("claim: nowhere", x.claim(0, 0), 4);
        x.removeStage(0);
        put(x, 0, "~(a&b)");
        due("claim: the lowest without is not 0", shelfAt2().claim(0, 1), 2);
    }

    /** Three stages that do not lead to one another, "a" holding at 0 and 1 alone. */
    private static StageTruths shelfAt2() {
        StageTruths x = new StageTruths();
        x.addStage(0);
        x.addStage(0);
        x.addStage(0);
        x.removeStage(0);
        x.learn(0, 0);
        x.learn(1, 0);
        put(x, 0, "a");
        return x;
    }

    // ---- promise 19

    private static void holds() {
        StageTruths x = tree();
        x.learn(3, 0);
        put(x, 0, "~~a");
        int[] due = {0, 1, 0, 1};
        for (int i = 0; i < 4; i++) {
            due("holds(0, " + i + ")", x.holds(0, i), due[i]);
        }
        put(x, 1, "~~a>a");
        int[] dueThen = {0, 0, 1, 1};
        for (int i = 0; i < 4; i++) {
            due("holds(1, " + i + ")", x.holds(1, i), dueThen[i]);
        }
        due("holds: no claim", x.holds(2, 0), UNKNOWN);
        due("holds: place 5", x.holds(5, 0), UNKNOWN);
        due("holds: stage 4", x.holds(0, 4), UNKNOWN);
        for (int it : WRONG) {
            due("holds(" + it + ", 0)", x.holds(it, 0), UNKNOWN);
            due("holds(0, " + it + ")", x.holds(0, it), UNKNOWN);
        }
    }

    // ---- promise 20

    private static final String[] VALID = {"a>a", "a>b>a", "(a>b>c)>(a>b)>a>c", "a&b>b&a", "a>~~a", "~~~a>~a",
        "~(a|b)>~a&~b", "~a&~b>~(a|b)", "~a|~b>~(a&b)", "~~(a|~a)", "(a>b)>~b>~a", "F>a", "~~(~~a>a)",
        "((a|~a)>b)>~~b", "~~((((a>b)>a)>a))", "(a|b)&~a>b", "(a>c)&(b>c)>a|b>c", "~~(a>b)>~~a>~~b",
        "a|b>~(~a&~b)", "(~~a>~~b)>~~(a>b)", "((((a>b)>a)>a)>b)>b", "a&(b|c)>a&b|a&c", "T", "~F", "~a>a>b"};

    /** These follow plainly, but not at all stages of all models; and with how few stages, 0 for more than 3. */
    private static final String[] PLAIN = {"a|~a", "~~a>a", "((a>b)>a)>a", "(a>b)|(b>a)", "~a|~~a",
        "(~a>~b)>b>a", "~(a&b)>~a|~b", "(a>b)>~a|b", "(~a>b|c)>(~a>b)|(~a>c)", "a|(a>b|~b)",
        "(a>b|c)|(b>a|c)|(c>a|b)", "a|(a>(b|(b>(c|~c))))", "(a>b|c)>(a>b)|(a>c)"};
    private static final int[] PLAIN_STAGES = {2, 2, 2, 3, 3, 2, 3, 2, 0, 3, 0, 0, 3};

    private static void follows() {
        for (String text : VALID) {
            StageTruths x = shelf(text);
            due("follows from nothing: " + text, x.follows(0, 0), 1);
            due("claim(.., 5): " + text, x.claim(0, 5), 1);
        }
        for (String text : PLAIN) {
            StageTruths x = shelf(text);
            due("does not follow from nothing: " + text, x.follows(0, 0), 0);
            due("claim(.., 5): " + text, x.claim(0, 5), 0);
            due("follows from itself: " + text, x.follows(1, 0), 1);
        }
        StageTruths x = shelf("a|b", "~a", "b", "b>c", "c");
        due("follows(3, 2)", x.follows(3, 2), 1);
        due("follows(1, 2)", x.follows(1, 2), 0);
        due("follows(2, 2)", x.follows(2, 2), 0);
        due("follows(11, 4)", x.follows(11, 4), 1);
        due("follows(9, 4)", x.follows(9, 4), 0);
        due("follows(15, 4)", x.follows(15, 4), 1);
        due("follows(31, 4)", x.follows(31, 4), 1);
        questionErrors("follows");
        StageTruths y = shelf("F", "a", "a>b|c", "(a>b)|(a>c)");
        due("follows from F", y.follows(1, 1), 1);
        due("follows: with more premises", y.follows(6, 3), 1);
        due("follows: does not without", y.follows(4, 3), 0);
        // The premises count at their stages alone: the object's stages do not.
        StageTruths z = shelf("a", "b");
        z.learn(0, 0);
        z.learn(0, 1);
        due("follows: of all models", z.follows(1, 1), 0);
    }

    /** The errors of the four calls that ask about premises and a place. */
    private static void questionErrors(String call) {
        StageTruths x = shelf("a", "b");
        int[] bad = {32, -1, 4, 7, 31, 16, Integer.MIN_VALUE, Integer.MAX_VALUE};
        for (int premises : bad) {
            due(call + "(" + premises + ", 0)", ask(x, call, premises, 0), BAD_VALUE);
            due(call + "(" + premises + ", 3): bad value goes first", ask(x, call, premises, 3), BAD_VALUE);
            due(call + "(" + premises + ", 9): bad value goes first", ask(x, call, premises, 9), BAD_VALUE);
        }
        for (int place : new int[] {2, 3, 4, 5, -1, 32, Integer.MIN_VALUE, Integer.MAX_VALUE}) {
            due(call + "(3, " + place + ")", ask(x, call, 3, place), UNKNOWN);
            due(call + "(0, " + place + ")", ask(x, call, 0, place), UNKNOWN);
        }
        due(call + ": nothing recorded", x.count(7), 2);
    }

    private static int ask(StageTruths x, String call, int premises, int place) {
        switch (call) {
            case "follows":
                return x.follows(premises, place);
            case "followsPlainly":
                return x.followsPlainly(premises, place);
            case "fewestStages":
                return x.fewestStages(premises, place);
            default:
                return x.fewestPremises(premises, place);
        }
    }

    // ---- promise 21

    private static void followsPlainly() {
        for (String text : VALID) {
            due("follows plainly: " + text, shelf(text).followsPlainly(0, 0), 1);
        }
        for (String text : PLAIN) {
            due("follows plainly: " + text, shelf(text).followsPlainly(0, 0), 1);
            due("claim(.., 6): " + text, shelf(text).claim(0, 6), 1);
        }
        StageTruths x = shelf("a>b", "~a|b", "~b", "~a", "d");
        due("followsPlainly(1, 1)", x.followsPlainly(1, 1), 1);
        due("followsPlainly(5, 3)", x.followsPlainly(5, 3), 1);
        due("followsPlainly(1, 3)", x.followsPlainly(1, 3), 0);
        due("followsPlainly(15, 4)", x.followsPlainly(15, 4), 0);
        due("followsPlainly(16, 4)", x.followsPlainly(16, 4), 1);
        due("followsPlainly(0, 0)", x.followsPlainly(0, 0), 0);
        questionErrors("followsPlainly");
    }

    // ---- promise 22

    private static void fewestStages() {
        for (String text : VALID) {
            due("fewestStages: " + text, shelf(text).fewestStages(0, 0), NONE);
        }
        for (int i = 0; i < PLAIN.length; i++) {
            due("fewestStages: " + PLAIN[i], shelf(PLAIN[i]).fewestStages(0, 0),
                PLAIN_STAGES[i] == 0 ? NONE : PLAIN_STAGES[i]);
        }
        for (String text : new String[] {"a", "F", "a>b", "~a", "a&~a", "a|b>c|d"}) {
            due("fewestStages: " + text, shelf(text).fewestStages(0, 0), 1);
        }
        StageTruths x = shelf("a|~a", "~~a>a", "~a|~~a", "a|(a>b|~b)", "~~b|~b");
        due("fewestStages(1, 1)", x.fewestStages(1, 1), NONE);
        due("fewestStages(2, 0)", x.fewestStages(2, 0), 3);
        due("fewestStages(4, 0)", x.fewestStages(4, 0), 2);
        due("fewestStages(4, 3)", x.fewestStages(4, 3), 3);
        due("fewestStages(1, 3)", x.fewestStages(1, 3), NONE);
        due("fewestStages(1, 4)", x.fewestStages(1, 4), 3);
        questionErrors("fewestStages");
    }

    // ---- promise 23

    private static void fewestPremises() {
        StageTruths x = shelf("a", "a>b", "b", "a&(a>b)", "b|c");
        due("fewestPremises(11, 4)", x.fewestPremises(11, 4), 8);
        due("fewestPremises(3, 4)", x.fewestPremises(3, 4), 3);
        due("fewestPremises(15, 4): the least of two", x.fewestPremises(15, 4), 4);
        due("fewestPremises(7, 4): one is fewer", x.fewestPremises(7, 4), 4);
        due("fewestPremises(12, 2)", x.fewestPremises(12, 2), 4);
        due("fewestPremises(1, 4)", x.fewestPremises(1, 4), NOT_POSSIBLE);
        due("fewestPremises(0, 0)", x.fewestPremises(0, 0), NOT_POSSIBLE);
        put(x, 4, "c>c");
        due("fewestPremises: none needed", x.fewestPremises(15, 4), 0);
        due("fewestPremises: of none", x.fewestPremises(0, 4), 0);
        StageTruths y = shelf("a", "a>b", "b>c", "c>d", "d");
        due("fewestPremises: four", y.fewestPremises(15, 4), 15);
        due("fewestPremises: itself", y.fewestPremises(31, 4), 16);
        StageTruths z = shelf("~~a", "~a|b", "a|~a", "a>b", "a");
        due("fewestPremises: 1 and 4", z.fewestPremises(15, 4), 5);
        due("fewestPremises: not plainly just", z.fewestPremises(9, 4), NOT_POSSIBLE);
        questionErrors("fewestPremises");
    }

    // ---- promise 24

    private static void relation() {
        StageTruths x = shelf("a", "~~a", "b", "a&a", "~~~~a");
        due("relation(0, 1)", x.relation(0, 1), 1);
        due("relation(1, 0)", x.relation(1, 0), 2);
        due("relation(0, 2)", x.relation(0, 2), 0);
        due("relation(0, 3)", x.relation(0, 3), 3);
        due("relation(1, 4)", x.relation(1, 4), 3);
        due("relation(2, 2)", x.relation(2, 2), 3);
        x.drop(3);
        due("relation: no claim", x.relation(0, 3), UNKNOWN);
        due("relation: no claim", x.relation(3, 0), UNKNOWN);
        due("relation(5, 0)", x.relation(5, 0), UNKNOWN);
        for (int it : WRONG) {
            due("relation(" + it + ", 0)", x.relation(it, 0), UNKNOWN);
            due("relation(0, " + it + ")", x.relation(0, it), UNKNOWN);
        }
    }

    // ---- promise 25

    private static void count() {
        StageTruths x = tree();
        x.addStage(3);
        x.lead(2, 4);
        x.learn(0, 3);
        x.learn(1, 0);
        x.learn(4, 2);
        put(x, 1, "a>b");
        put(x, 4, "d");
        text(x, "~~a|");
        int[] due = {5, 8, 2, 16, 1, 4, 8, 4, 4};
        for (int i = 0; i < due.length; i++) {
            due("count(" + i + ")", x.count(i), due[i]);
        }
        due("count(9)", x.count(9), BAD_VALUE);
        for (int it : WRONG) {
            due("count(" + it + ")", x.count(it), BAD_VALUE);
        }
        StageTruths y = tree();
        due("count(3): two last stages", y.count(3), 12);
        due("count(5): all alike", y.count(5), 1);
        y.removeStage(0);
        due("count(4): two first stages", y.count(4), 3);
        due("count(1): one pair", y.count(1), 1);
        for (int fact = 0; fact < 4; fact++) {
            y.learn(0, fact);
            y.learn(1, fact);
        }
        due("count(6): all facts", y.count(6), 15);
        due("count(5): alike again", y.count(5), 1);
    }
}
