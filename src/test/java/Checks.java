import java.util.Set;

/** What the tests have in common: the counting of what is looked at, and objects to begin with. */
abstract class Checks {
    static final Set<String> METHODS = Set.of("addStage", "lead", "learn", "forget", "removeStage", "shrink",
        "put", "drop", "join", "type", "clearText", "undo", "keep", "restore", "stage", "alike", "claim", "holds",
        "follows", "followsPlainly", "fewestStages", "fewestPremises", "relation", "count");
    static final int UNKNOWN = -1;
    static final int BAD_VALUE = -2;
    static final int FULL = -3;
    static final int NOT_POSSIBLE = -4;
    static final int NONE = -5;

    private static int checked = 0;
    private static int wrong = 0;

    static void check(boolean fine, String what) {
        checked++;
        if (!fine) {
            wrong++;
            System.out.println(what);
        }
    }

    static void due(String call, int got, int want) {
        checked++;
        if (got != want) {
            wrong++;
            System.out.println(call + " answered " + got + ", due is " + want);
        }
    }

    static void due(String call, String got, String want) {
        checked++;
        if (!got.equals(want)) {
            wrong++;
            System.out.println(call + " told\n    " + got + ", due is\n    " + want);
        }
    }

    /** To be called last: the program ends with 1 if any answer was not as due. */
    static void finish() {
        System.out.println(checked + " checked, " + wrong + " not as due");
        if (wrong != 0) {
            System.exit(1);
        }
    }

    static int value(boolean it) {
        return it ? 1 : 0;
    }

    /** What is told after something was done. */
    static int then(int done, int told) {
        return told;
    }

    /** Types a text in place of the one that was. */
    static void text(StageTruths x, String text) {
        x.clearText();
        for (char c : text.toCharArray()) {
            x.type(c);
        }
    }

    static int put(StageTruths x, int place, String text) {
        text(x, text);
        return x.put(place);
    }

    /** A new object with claims on the first places. */
    static StageTruths shelf(String... texts) {
        StageTruths x = new StageTruths();
        fill(x, texts);
        return x;
    }

    /** Puts claims on the first places, where they may be already. */
    static void fill(StageTruths x, String... texts) {
        for (int i = 0; i < texts.length; i++) {
            int got = put(x, i, texts[i]);
            if (got < 0 && got != NONE) {
                due("put of " + texts[i], got, 0);
            }
        }
    }

    /** 0 leads to 1 and 2, and 1 to 3. */
    static StageTruths tree() {
        StageTruths x = new StageTruths();
        growTree(x);
        return x;
    }

    static void growTree(StageTruths x) {
        x.addStage(0);
        x.addStage(0);
        x.addStage(1);
    }

    /** As many stages, each of which leads to the next one. */
    static void growChain(StageTruths x, int stages) {
        for (int i = 1; i < stages; i++) {
            x.addStage(i - 1);
        }
    }
}
