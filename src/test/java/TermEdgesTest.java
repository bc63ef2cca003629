import java.util.function.Consumer;
import java.util.function.ToIntFunction;

/**
 * Each sentence of the document's "Terms" that names a limit or an edge, with a test of its own: on the edge and
 * one step on either side of it. What a refused call answers is in CallEdgesTest, too, call by call.
 */
public final class TermEdgesTest extends Twins {
    private static final int LONGEST = 30;

    public static void main(String[] args) {
        atMostEightStages();
        fourFacts();
        aStageLeadsToItself();
        toLaterStagesOnly();
        leadsToAllToWhichThatOneLeads();
        knownAtAllStagesToWhichItLeads();
        atFirstOneStage();
        leavesHold();
        andHolds();
        orHolds();
        ifHoldsByItselfToo();
        ifHoldsByAllBehind();
        notHoldsByItselfToo();
        modelsOfAnyNumber();
        perhapsNoPremises();
        modelsWithOneStage();
        atMostThirtyCharacters();
        emptyTextAtFirst();
        bothAndEitherAndClaim();
        ifFromTheRight();
        sixParenthesesOpen();
        seventhParenthesisIsAFault();
        sevenParenthesesInAll();
        firstCharacterNotAllowed();
        tooEarlyAnEnd();
        emptyTextEndsTooEarly();
        allShortTexts();
        theSameClaims();
        fivePlaces();
        fivePlacesWithTheLongestTexts();
        noClaimsAtFirst();
        atMostFourStates();
        theOldestIsDropped();
        undoRestoresTheLatest();
        actsThatAnswerNothingAreRecorded();
        whatIsNoActIsNotRecorded();
        countAndClaimChangeNothing();
        snapshotEmptyAtFirst();
        oneSnapshot();
        aStateIsWithoutTheText();
        aStateIsWithoutTheHistory();
        aStateIsWithoutTheSnapshot();
        setsAreBits();
        fiveHundredTwelveCalls();
        finish();
    }

    // ---- stages

    /** "There are at most 8 stages, numbered from 0" */
    private static void atMostEightStages() {
        StageTruths x = new StageTruths();
        for (int i = 1; i < 8; i++) {
            due("no stage " + i + " yet", x.stage(i, 0), UNKNOWN);
            due("stage " + i, x.addStage(0), i);
            due("stages with " + i, x.count(0), i + 1);
            due("stage " + i + " is there", x.stage(i, 0), 1 << i);
        }
        due("a ninth stage", x.addStage(0), FULL);
        due("a ninth stage", x.addStage(7), FULL);
        due("a ninth stage", x.stage(8, 0), UNKNOWN);
        due("eight stages", x.count(0), 8);
        due("seven stages", x.removeStage(7), 7);
        due("an eighth again", x.addStage(6), 7);
        due("a ninth again", x.addStage(6), FULL);
        due("numbered from 0", x.stage(0, 0), 255);
        due("numbered from 0", x.stage(-1, 0), UNKNOWN);
    }

    /** "and four facts, a to d, numbered 0 to 3" */
    private static void fourFacts() {
        for (int fact = 0; fact < 4; fact++) {
            StageTruths x = new StageTruths();
            due("learn fact " + fact, x.learn(0, fact), 1);
            due("fact " + fact, x.stage(0, 2), 1 << fact);
            for (int letter = 0; letter < 4; letter++) {
                due("fact " + fact + " is a letter", put(x, 0, "" + (char) ('a' + letter)), value(letter == fact));
                due("fact of a letter", x.claim(0, 4), 1 << letter);
            }
            due("forget fact " + fact, x.forget(0, fact), 0);
        }
        for (int fact : new int[] {-1, 4, 32, Integer.MIN_VALUE, Integer.MAX_VALUE}) {
            refused("learn(0, " + fact + ")", BARE, y -> y.learn(0, fact), UNKNOWN);
            refused("forget(0, " + fact + ")", BARE, y -> y.forget(0, fact), UNKNOWN);
        }
        due("no letter before a", put(new StageTruths(), 0, "" + (char) ('a' - 1)), -100);
        due("no letter behind d", put(new StageTruths(), 0, "e"), -100);
    }

    /** "A stage leads to itself" */
    private static void aStageLeadsToItself() {
        StageTruths x = new StageTruths();
        growTree(x);
        for (int stage = 0; stage < 4; stage++) {
            due("stage " + stage + " leads to itself", x.stage(stage, 0) >> stage & 1, 1);
            due("stage " + stage + " is led to by itself", x.stage(stage, 1) >> stage & 1, 1);
        }
        x.removeStage(1);
        for (int stage = 0; stage < 3; stage++) {
            due("stage " + stage + " leads to itself, still", x.stage(stage, 0) >> stage & 1, 1);
        }
    }

    /** "and to some later stages (with greater numbers)" */
    private static void toLaterStagesOnly() {
        refused("lead one step back", Twins::growTree, x -> x.lead(2, 1), BAD_VALUE);
        refused("lead to itself", Twins::growTree, x -> x.lead(2, 2), BAD_VALUE);
        StageTruths x = tree();
        due("lead one step ahead", x.lead(2, 3), 1);
        due("nothing leads back", x.stage(3, 0), 8);
    }

    /** "if it leads to a stage, it leads to all to which that one leads" */
    private static void leadsToAllToWhichThatOneLeads() {
        StageTruths x = tree();
        x.addStage(3);
        due("lead: to three, of which one leads to the next", x.lead(2, 3), 2);
        due("lead: to all behind", x.stage(2, 0), 4 + 8 + 16);
        due("lead: not to what is before it", x.stage(2, 1), 1 + 4);
        StageTruths y = new StageTruths();
        growChain(y, 8);
        due("a chain: the first leads to all", y.stage(0, 0), 255);
        due("a chain: the last is led to by all", y.stage(7, 1), 255);
        due("a chain: the one before the last", y.stage(6, 0), 128 + 64);
        due("a chain: pairs", y.count(1), 28);
    }

    /** "a fact that is known at a stage is known at all stages to which this leads" */
    private static void knownAtAllStagesToWhichItLeads() {
        StageTruths x = new StageTruths();
        growChain(x, 8);
        due("learn at the last", x.learn(7, 0), 128);
        due("learn in the middle", x.learn(4, 0), 16 + 32 + 64 + 128);
        due("learn at the first", x.learn(0, 0), 255);
        due("forget at the first", x.forget(0, 0), 254);
        due("forget in the middle", x.forget(4, 0), 32 + 64 + 128);
        due("forget at the last", x.forget(7, 0), 0);
        StageTruths y = tree();
        due("learn: not beside", y.learn(1, 2), 2 + 8);
        due("learn: not before", y.stage(0, 2), 0);
        due("a new stage knows it", then(y.addStage(1), y.stage(4, 2)), 4);
        y.learn(2, 1);
        due("not yet led to", y.stage(4, 2), 4);
        due("led to, it is known there", then(y.lead(2, 4), y.stage(4, 2)), 2 + 4);
        due("not back", y.stage(2, 2), 2);
        due("not beside it", y.stage(3, 2), 4);
        due("led to what leads on, it is known behind, too", then(y.lead(2, 3), y.stage(3, 2)), 2 + 4);
    }

    /** "At first there is the stage 0, at which nothing is known." */
    private static void atFirstOneStage() {
        StageTruths x = new StageTruths();
        due("stages at first", x.count(0), 1);
        due("no stage 1", x.stage(1, 2), UNKNOWN);
        due("known at first", x.stage(0, 2), 0);
        due("it leads to itself alone", x.stage(0, 0) + x.stage(0, 1), 2);
    }

    // ---- claims

    /** "a fact, if it is known there; T always; F never" */
    private static void leavesHold() {
        StageTruths x = new StageTruths();
        growChain(x, 3);
        x.learn(1, 2);
        fill(x, "c", "T", "F", "b");
        due("a fact one stage before", x.holds(0, 0), 0);
        due("a fact just there", x.holds(0, 1), 1);
        due("a fact one stage later", x.holds(0, 2), 1);
        due("another fact", x.claim(3, 0), 0);
        due("T", x.claim(1, 0), 7);
        due("F", x.claim(2, 0), 0);
    }

    /** Four stages that lead nowhere: nothing known, a, b, both. */
    private static StageTruths fourCases(String... texts) {
        StageTruths x = new StageTruths();
        for (int i = 0; i < 4; i++) {
            x.addStage(0);
        }
        x.removeStage(0);
        x.learn(1, 0);
        x.learn(2, 1);
        x.learn(3, 0);
        x.learn(3, 1);
        fill(x, texts);
        return x;
    }

    /** "x&y, if both hold there" */
    private static void andHolds() {
        due("&", fourCases("a&b").claim(0, 0), 8);
        due("& with T", fourCases("a&T").claim(0, 0), 2 + 8);
        due("& with F", fourCases("F&b").claim(0, 0), 0);
    }

    /** "x|y, if any of both holds there" */
    private static void orHolds() {
        due("|", fourCases("a|b").claim(0, 0), 2 + 4 + 8);
        due("| with F", fourCases("F|b").claim(0, 0), 4 + 8);
        due("| with T", fourCases("a|T").claim(0, 0), 15);
        // At the stage itself one of both must hold: it is not enough that one does behind it, whatever comes.
        StageTruths x = new StageTruths();
        x.addStage(0);
        x.addStage(0);
        x.removeStage(0);
        x.addStage(0);
        x.learn(1, 0);
        x.learn(2, 1);
        due("| just behind", put(x, 0, "a|b"), 2 + 4);
    }

    /** "x>y, if at each stage to which it leads, itself too, y holds or x does not" */
    private static void ifHoldsByItselfToo() {
        due(">", fourCases("a>b").claim(0, 0), 1 + 4 + 8);
        due("> to F", fourCases("a>F").claim(0, 0), 1 + 4);
        due("> from T", fourCases("T>b").claim(0, 0), 4 + 8);
        due("> from F", fourCases("F>b").claim(0, 0), 15);
        // All is well behind the stage, but not at it.
        StageTruths x = new StageTruths();
        x.addStage(0);
        x.learn(0, 0);
        x.learn(1, 1);
        due("> fails at the stage itself", put(x, 0, "a>b"), 2);
    }

    /** The same sentence: what can come behind counts as well. */
    private static void ifHoldsByAllBehind() {
        StageTruths x = new StageTruths();
        growChain(x, 8);
        x.learn(7, 0);
        due("> fails at the last of eight", put(x, 0, "a>b"), 0);
        x.learn(7, 1);
        due("> fails nowhere", x.claim(0, 0), 255);
        x.learn(6, 0);
        due("> fails at the last but one", x.claim(0, 0), 128);
        StageTruths y = tree();
        y.learn(3, 0);
        due("> fails in one branch", put(y, 0, "a>b"), 4);
    }

    /** "~x, if x holds at no stage to which it leads, itself too" */
    private static void notHoldsByItselfToo() {
        due("~", fourCases("~a").claim(0, 0), 1 + 4);
        due("~T", fourCases("~T").claim(0, 0), 0);
        due("~F", fourCases("~F").claim(0, 0), 15);
        StageTruths x = new StageTruths();
        growChain(x, 8);
        due("~ before it is known", put(x, 0, "~a"), 255);
        x.learn(7, 0);
        due("~ fails for the last of eight", x.claim(0, 0), 0);
        StageTruths y = tree();
        y.learn(3, 0);
        due("~ fails in one branch", put(y, 0, "~a"), 4);
        due("~~ holds before it is known", put(y, 0, "~~a"), 2 + 8);
    }

    /** "A model is any stages with facts that are as told, of any number." */
    private static void modelsOfAnyNumber() {
        String[] chains = {"a", "a|~a", "a|(a>b|~b)", "a|(a>b|(b>c|~c))", "a|(a>b|(b>c|(c>d|~d)))"};
        for (int i = 0; i < chains.length; i++) {
            StageTruths x = shelf(chains[i]);
            due("a chain of " + (i + 1) + " fails: " + chains[i], x.follows(0, 0), 0);
            due("the fewest stages: " + chains[i], x.fewestStages(0, 0), i < 3 ? i + 1 : NONE);
        }
        String[] forks = {"~a|~~a", "~(a&b)>~(a&c)>~(b&c)>~a|~b|~c"};
        for (int i = 0; i < forks.length; i++) {
            StageTruths x = new StageTruths();
            if (i == 0) {
                put(x, 0, forks[0]);
            } else {
                fill(x, "~a|~b|~c", "~(a&b)&~(a&c)&~(b&c)");
            }
            due("a fork of " + (2 + i) + " fails", x.follows(2 * i, 0), 0);
            due("the fewest stages of a fork", x.fewestStages(2 * i, 0), i == 0 ? 3 : NONE);
        }
        StageTruths x = shelf("a");
        x.learn(0, 0);
        due("what holds at all stages of the object need not follow", x.claim(0, 5), 0);
    }

    /** "A claim follows from some premises (claims, perhaps none)" */
    private static void perhapsNoPremises() {
        StageTruths x = shelf("a>a", "a", "a|~a");
        due("from none", x.follows(0, 0), 1);
        due("from none: it does not", x.follows(0, 1), 0);
        due("from one", x.follows(2, 1), 1);
        due("plainly from none", x.followsPlainly(0, 2), 1);
        due("plainly from none: it does not", x.followsPlainly(0, 1), 0);
        due("fewest stages with none", x.fewestStages(0, 0), NONE);
        due("fewest stages with none", x.fewestStages(0, 1), 1);
        due("fewest premises of none", x.fewestPremises(0, 0), 0);
        due("fewest premises of none", x.fewestPremises(0, 1), NOT_POSSIBLE);
    }

    /** "It follows plainly if it does so in all models with one stage." */
    private static void modelsWithOneStage() {
        StageTruths x = shelf("a|~a", "~~a>a", "~~a", "a", "a|b");
        due("fails with two stages alone", x.followsPlainly(0, 0), 1);
        due("fails with two stages alone", x.follows(0, 0), 0);
        due("fails with two stages alone", x.followsPlainly(4, 3), 1);
        due("fails with two stages alone", x.follows(4, 3), 0);
        due("fails with one stage", x.followsPlainly(16, 3), 0);
        due("fails with none", x.followsPlainly(8, 4), 1);
    }

    // ---- texts

    /** "There is a text of at most 30 characters" */
    private static void atMostThirtyCharacters() {
        StageTruths x = new StageTruths();
        for (int i = 1; i <= LONGEST; i++) {
            due("character " + i, x.type('~'), i);
            due("characters", x.count(8), i);
        }
        due("character 31", x.type('a'), FULL);
        due("character 31", x.count(8), LONGEST);
        due("the text without it", x.put(0), -130);
        due("the length that it had", x.clearText(), LONGEST);
        due("the first again", x.type('T'), 1);
        due("and nothing else", x.put(0), 1);
        due("29 characters", put(new StageTruths(), 0, "~".repeat(28) + "a"), 0);
        due("30 characters", put(new StageTruths(), 0, "~".repeat(29) + "a"), 1);
    }

    /** "empty at first" */
    private static void emptyTextAtFirst() {
        StageTruths x = new StageTruths();
        due("the text at first", x.count(8), 0);
        due("the text at first", x.put(0), -100);
        due("the text at first", x.clearText(), 0);
        due("the first character", x.type('T'), 1);
        due("the text then", x.put(0), 1);
    }

    private static void same(String one, String other) {
        StageTruths x = shelf(one);
        due(one + " and " + other, put(x, 0, other), NONE);
    }

    private static void different(String one, String other) {
        StageTruths x = shelf(one);
        due(one + " and " + other + " are different", value(put(x, 0, other) >= 0), 1);
        due(one + " and " + other + " are different", x.count(7), 2);
    }

    /** "claim = either [ ">" claim ]; either = both { "|" both }; both = simple { "&" simple }; simple = .." */
    private static void bothAndEitherAndClaim() {
        same("a&b&c&d", "((a&b)&c)&d");
        different("a&b&c&d", "(a&b)&(c&d)");
        same("a|b|c|d", "((a|b)|c)|d");
        different("a|b|c|d", "(a|b)|(c|d)");
        same("a|b&c", "a|(b&c)");
        different("a|b&c", "(a|b)&c");
        same("a&b|c", "(a&b)|c");
        different("a&b|c", "a&(b|c)");
        same("a|b>c", "(a|b)>c");
        different("a|b>c", "a|(b>c)");
        same("a>b|c", "a>(b|c)");
        different("a>b|c", "(a>b)|c");
        same("~a&b", "(~a)&b");
        different("~a&b", "~(a&b)");
        same("~~a", "~(~a)");
        different("~~a", "a");
        same("~(a)", "~a");
        same("(T)", "T");
        same("((F))", "F");
    }

    /** "So ">" is taken from the right: "a>b>c" is "a>(b>c)"." */
    private static void ifFromTheRight() {
        same("a>b>c", "a>(b>c)");
        different("a>b>c", "(a>b)>c");
        same("a>b>c>d", "a>(b>(c>d))");
        different("a>b>c>d", "a>((b>c)>d)");
        same("(a>b)>c>d", "(a>b)>(c>d)");
    }

    /** "At most 6 parentheses are open at a time." */
    private static void sixParenthesesOpen() {
        for (int open = 0; open <= 6; open++) {
            for (int closed = 0; closed <= open + 1; closed++) {
                String text = "(".repeat(open) + "a" + ")".repeat(closed);
                int fault = closed < open ? text.length() : 2 * open + 1;
                due(text, put(new StageTruths(), 0, text), closed == open ? 0 : -100 - fault);
            }
        }
        due("six, with signs between", put(new StageTruths(), 0, "~(a&(b|(c>(~(d&(a))))))"), 1);
    }

    /** "the first character that is not allowed at its place (a seventh open parenthesis, too)" */
    private static void seventhParenthesisIsAFault() {
        for (int open = 7; open <= 9; open++) {
            for (int closed = 0; closed <= open; closed++) {
                String text = "(".repeat(open) + "a" + ")".repeat(closed);
                due(text, put(new StageTruths(), 0, text), -106);
            }
        }
        String[] texts = {"~(a&(b|(c>(~(d&((a)))))))", "((((((a|(", "((((((~(a", "(((((a)|((b", "(((((a)|(((b",
            "((((((T)&(F)&((c"};
        int[] faults = {16, 8, 7, 11, 10, 14};
        for (int i = 0; i < texts.length; i++) {
            refusedAlways("the seventh of " + texts[i], typed(texts[i]), x -> x.put(0), -100 - faults[i]);
        }
    }

    private static Consumer<StageTruths> typed(String text) {
        return x -> text(x, text);
    }

    /** "At most 6 parentheses are open at a time": those that are closed again do not count. */
    private static void sevenParenthesesInAll() {
        due("seven, one after another", put(new StageTruths(), 0, "(a)|(a)|(a)|(a)|(a)|(a)|(a)"), 0);
        due("six, and one more beside the last", put(new StageTruths(), 0, "((((((a)|(b))))))"), 0);
        due("six and six", put(new StageTruths(), 0, "((((((a))))))>((((((b))))))"), 1);
        due("six and seven", put(new StageTruths(), 0, "((((((a))))))>(((((((b))))))"), -120);
        due("open again after the fault of another text", put(afterFault(), 0, "((((((a))))))"), 0);
    }

    private static StageTruths afterFault() {
        StageTruths x = new StageTruths();
        put(x, 0, "((((((a");
        return x;
    }

    /** "The fault of the text is the index, from 0, of the first character that is not allowed at its place" */
    private static void firstCharacterNotAllowed() {
        String part = "abcdTF";
        String all = "abcdTF~&|>()";
        for (char c = 0; c < 300; c++) {
            boolean begins = part.indexOf(c) >= 0;
            boolean mayBegin = begins || c == '~' || c == '(';
            boolean mayFollow = c == '&' || c == '|' || c == '>';
            due("at first, " + (int) c, value(put(new StageTruths(), 0, "" + c) == -100), value(!mayBegin));
            due("behind a part, " + (int) c, put(new StageTruths(), 0, "a" + c), mayFollow ? -102 : -101);
            due("behind ~, " + (int) c, value(put(new StageTruths(), 0, "~" + c) == -101), value(!mayBegin));
            due("behind (a, " + (int) c, put(new StageTruths(), 0, "(a" + c),
                c == ')' ? 0 : mayFollow ? -103 : -102);
            due("in the middle, " + (int) c, value(put(new StageTruths(), 0, "b>" + c) == -102), value(!mayBegin));
        }
        for (char c : new char[] {0, 0x7f, 0x80, 0xff, 0x100, 0x161, 0x17e, 0x4141, 0x8061, 0xffff, 0xff54}) {
            due("another sign: " + (int) c, put(new StageTruths(), 0, "a&" + c), -102);
            due("another sign behind a part: " + (int) c, put(new StageTruths(), 0, "a" + c), -101);
        }
        due("the first of two", put(new StageTruths(), 0, "ab)"), -101);
        due("the last of 29", put(new StageTruths(), 0, "~".repeat(27) + "ab"), -128);
        due("the last of 30", put(new StageTruths(), 0, "~".repeat(28) + "ab"), -129);
        due("the last but one of 30", put(new StageTruths(), 0, "~".repeat(27) + "ab&"), -128);
        due("all signs", put(new StageTruths(), 0, all), -101);
    }

    /** "or the length of the text if it ends too early" */
    private static void tooEarlyAnEnd() {
        String[] texts = {"~", "(", "a&", "a|", "a>", "(a", "~(a", "a>~", "(a)&", "((a)", "a&b>(c|d", "(a|b)>"};
        for (String text : texts) {
            refusedAlways(text + " ends too early", typed(text), x -> x.put(0), -100 - text.length());
        }
        due("29 end too early", put(new StageTruths(), 0, "~".repeat(29)), -129);
        due("30 end too early", put(new StageTruths(), 0, "~".repeat(30)), -130);
        due("30 that open a parenthesis", put(new StageTruths(), 0, "~".repeat(28) + "(a"), -130);
        due("30 that close it", put(new StageTruths(), 0, "~".repeat(27) + "(a)"), 1);
    }

    /** "(the empty text does)" */
    private static void emptyTextEndsTooEarly() {
        refusedAlways("the empty text", x -> x.clearText(), x -> x.put(0), -100);
        refusedAlways("the empty text with a claim there", x -> {
            put(x, 0, "a");
            x.clearText();
        }, x -> x.put(0), -100);
    }

    /** The same sentences, for each text of up to five signs, as PlainTruths reads them. */
    private static void allShortTexts() {
        String signs = "aF~&|>()x";
        int texts = 0;
        for (int length = 0; length <= 5; length++) {
            int many = (int) Math.pow(signs.length(), length);
            for (int i = 0; i < many; i++) {
                StageTruths x = new StageTruths();
                PlainTruths plain = new PlainTruths();
                StringBuilder text = new StringBuilder();
                for (int at = 0, rest = i; at < length; at++, rest /= signs.length()) {
                    text.append(signs.charAt(rest % signs.length()));
                    x.type(text.charAt(at));
                    plain.type(text.charAt(at));
                }
                int got = x.put(0);
                int want = plain.put(0);
                boolean fine = got == want && x.claim(0, 2) == plain.claim(0, 2)
                    && x.claim(0, 3) == plain.claim(0, 3) && x.claim(0, 7) == plain.claim(0, 7);
                texts++;
                if (!fine) {
                    due("put of \"" + text + "\"", got, want);
                    due("read of \"" + text + "\"", 0, 1);
                }
            }
        }
        due("texts", texts, 1 + 9 + 81 + 729 + 6561 + 59049);
    }

    /** "Two claims are the same if they are made in the same way: .." */
    private static void theSameClaims() {
        same("a&b", "(a&b)");
        different("a&b", "b&a");
        different("~a", "a>F");
        same("a&b&c", "(a&b)&c");
        different("a&b&c", "a&(b&c)");
        different("a", "b");
        different("T", "F");
        different("a|b", "a&b");
        StageTruths x = shelf("~a&(a>F)");
        due("~a and a>F are counted as two", x.claim(0, 3), 5);
        StageTruths y = shelf("a&b|(a&b)|b&a");
        due("a&b twice, and b&a", y.claim(0, 3), 2 + 2 + 2);
    }

    // ---- the shelf

    /** "There is a shelf with 5 places, numbered from 0" */
    private static void fivePlaces() {
        StageTruths x = new StageTruths();
        text(x, "T");
        due("no place before", x.put(-1), UNKNOWN);
        for (int i = 0; i < 5; i++) {
            due("place " + i, x.put(i), 1);
            due("places with claims", x.count(2), i + 1);
        }
        due("no place behind", x.put(5), UNKNOWN);
        due("places with claims", x.count(2), 5);
        due("all of them", x.follows(31, 4), 1);
        due("no more of them", x.follows(32, 4), BAD_VALUE);
    }

    /** The same sentence, all places with claims of the longest texts, of which no two have a part in common. */
    private static void fivePlacesWithTheLongestTexts() {
        String nots = "~".repeat(29);
        StageTruths x = shelf(nots + "a", nots + "b", nots + "c", nots + "d", nots + "F");
        for (int place = 0; place < 4; place++) {
            due("the last one from all", x.follows(15, 4), 1);
            due("one from all others", x.follows(31 - (1 << place), place), 0);
            due("plainly", x.followsPlainly(31 - (1 << place), place), 0);
            due("fewest stages", x.fewestStages(31 - (1 << place), place), 1);
            due("itself of all", x.fewestPremises(31, place), 1 << place);
        }
        due("none of all", x.fewestPremises(31, 4), 0);
        due("the last of 29 parts", put(x, 4, nots + "T"), 0);
        due("the last one from all", x.follows(15, 4), 0);
        due("all from the last one", x.follows(16, 3), 1);
        due("the last one of all", x.fewestPremises(24, 2), 16);
    }

    /** "each of which has a claim or none (at first none)" */
    private static void noClaimsAtFirst() {
        for (int i = 0; i < 5; i++) {
            int place = i;
            unchangedFromNew("claim of place " + i, BARE, x -> x.claim(place, 2), UNKNOWN);
            unchangedFromNew("drop of place " + i, BARE, x -> x.drop(place), UNKNOWN);
        }
        due("claims at first", new StageTruths().count(2), 0);
    }

    // ---- history

    /** Acts that each make a state of its own: as many facts and stages as there were acts. */
    private static StageTruths afterActs(int acts) {
        StageTruths x = new StageTruths();
        for (int i = 0; i < acts; i++) {
            if (i < 4) {
                x.learn(0, i);
            } else {
                x.addStage(0);
            }
        }
        return x;
    }

    /** "A history of at most 4 states is kept" */
    private static void atMostFourStates() {
        for (int acts = 0; acts <= 10; acts++) {
            StageTruths x = afterActs(acts);
            int kept = Math.min(acts, 4);
            due("states after " + acts, x.count(7), kept);
            for (int left = kept - 1; left >= 0; left--) {
                due("states after " + acts + ", undone", x.undo(), left);
                due("states after " + acts + ", counted", x.count(7), left);
            }
            due("no state left after " + acts, x.undo(), NONE);
        }
    }

    /** "when one more is recorded, the oldest one is dropped" */
    private static void theOldestIsDropped() {
        for (int acts = 3; acts <= 10; acts++) {
            StageTruths x = afterActs(acts);
            for (int i = 0; i < 4; i++) {
                x.undo();
            }
            int dropped = Math.max(acts - 4, 0);
            due("the oldest state after " + acts + ": facts", x.stage(0, 2), (1 << Math.min(dropped, 4)) - 1);
            due("the oldest state after " + acts + ": stages", x.count(0), 1 + Math.max(dropped - 4, 0));
        }
    }

    /** "undo() removes and restores the latest one" */
    private static void undoRestoresTheLatest() {
        StageTruths x = afterActs(4);
        due("the latest", then(x.undo(), x.stage(0, 2)), 7);
        due("the one before", then(x.undo(), x.stage(0, 2)), 3);
        due("an act on it", x.learn(0, 3), 1);
        due("states then", x.count(7), 3);
        due("the latest is that one", then(x.undo(), x.stage(0, 2)), 3);
        due("removed, not just told", then(x.undo(), x.stage(0, 2)), 1);
        due("the last one", x.undo(), 0);
        due("nothing known", x.stage(0, 2), 0);
        due("no more", x.undo(), NONE);
        due("nothing changed", x.stage(0, 2), 0);
    }

    /** "Each call of a method that is described as an act, and returns no error and not NONE, records .." */
    private static void actsThatAnswerNothingAreRecorded() {
        StageTruths x = new StageTruths();
        due("put that holds nowhere", put(x, 0, "F"), 0);
        due("put is recorded", x.count(7), 1);
        due("drop of the only one", x.drop(0), 0);
        due("drop is recorded", x.count(7), 2);
        x.undo();
        due("join that holds nowhere", x.join(1, 0, 0, 0), 0);
        due("join is recorded", x.count(7), 2);
        x.learn(0, 0);
        due("forget, so that it is known nowhere", x.forget(0, 0), 0);
        due("forget is recorded", x.count(7), 4);
        due("forget is undone", then(x.undo(), x.stage(0, 2)), 1);
        x.undo();
        due("join is undone", then(x.undo(), x.claim(1, 2)), UNKNOWN);
        due("put is undone", then(x.undo(), x.claim(0, 2)), UNKNOWN);
        due("all is undone", x.count(7), 0);
        eachActIsRecorded("addStage", y -> y.addStage(0), 4);
        eachActIsRecorded("lead", y -> y.lead(2, 3), 1);
        eachActIsRecorded("learn", y -> y.learn(1, 1), 2 + 4 + 8);
        eachActIsRecorded("forget", y -> y.forget(2, 1), 0);
        eachActIsRecorded("removeStage", y -> y.removeStage(0), 3);
        eachActIsRecorded("shrink", y -> y.shrink(), 1);
        eachActIsRecorded("put", y -> y.put(0), 4);
        eachActIsRecorded("drop", y -> y.drop(1), 0);
        eachActIsRecorded("join", y -> y.join(4, 1, 1, 1), 4);
        eachActIsRecorded("restore", y -> y.restore(), 1);
    }

    private static void eachActIsRecorded(String call, ToIntFunction<StageTruths> act, int answer) {
        for (int full = 0; full < 2; full++) {
            StageTruths x = new StageTruths();
            x.keep();
            growTree(x);
            x.learn(2, 1);
            put(x, 1, "b|c");
            if (full == 0) {
                x.learn(1, 1);
                x.undo();
            }
            String before = told(x);
            due(call, act.applyAsInt(x), answer);
            due(call + " is recorded", x.count(7), 4);
            due(call + " is undone", x.undo(), 3);
            due(call + " is undone", told(x), before);
        }
    }

    /** The same sentence: what is not described as an act records nothing. */
    private static void whatIsNoActIsNotRecorded() {
        StageTruths x = afterActs(3);
        x.type('a');
        due("type", x.count(7), 3);
        x.clearText();
        due("clearText", x.count(7), 3);
        x.keep();
        due("keep", x.count(7), 3);
        x.undo();
        due("undo", x.count(7), 2);
        due("undo is not undone", then(x.undo(), x.stage(0, 2)), 1);
        Consumer<StageTruths> before = y -> {
            growTree(y);
            y.learn(3, 0);
            fill(y, "a|~a", "a>b");
            y.put(4);
        };
        unchangedFromNew("stage tells", before, y -> y.stage(1, 0) + y.stage(1, 1) + y.stage(1, 2) + y.stage(1, 3), 14);
        unchangedFromNew("alike tells", before, y -> y.alike(0, 3), 0);
        int[] claims = {4, 0, 3, 3, 3, 0, 0, 2};
        for (int what = 0; what < claims.length; what++) {
            int asked = what;
            unchangedFromNew("claim tells " + what, before, y -> y.claim(1, asked), claims[what]);
        }
        unchangedFromNew("holds tells", before, y -> y.holds(0, 3), 1);
        unchangedFromNew("follows tells", before, y -> y.follows(3, 1), 1);
        unchangedFromNew("followsPlainly tells", before, y -> y.followsPlainly(1, 1), 0);
        unchangedFromNew("fewestStages tells", before, y -> y.fewestStages(0, 0), 2);
        unchangedFromNew("fewestPremises tells", before, y -> y.fewestPremises(3, 1), 2);
        unchangedFromNew("fewestPremises tells all", before, y -> y.fewestPremises(16, 1), 16);
        unchangedFromNew("relation tells", before, y -> y.relation(0, 1), 0);
        int[] counts = {4, 4, 3, 12, 1, 4, 0, 4, 3};
        for (int what = 0; what < counts.length; what++) {
            int asked = what;
            unchangedFromNew("count tells " + what, before, y -> y.count(asked), counts[what]);
        }
    }

    /** The same for what the twins themselves are looked at with. */
    private static void countAndClaimChangeNothing() {
        String[] texts = {"a", "~b", "c|T", "a>b", "~~d"};
        for (int what = 0; what <= 8; what++) {
            for (int place = -1; place < 5; place++) {
                StageTruths x = shelf(texts);
                x.keep();
                for (int fact = 0; fact < 4; fact++) {
                    x.learn(0, fact);
                }
                x.undo();
                x.undo();
                String call = place < 0 ? "count(" + what + ")" : "claim(" + place + ", " + what + ")";
                int first = place < 0 ? x.count(what) : x.claim(place, what);
                due(call + " again", place < 0 ? x.count(what) : x.claim(place, what), first);
                due(call + " records nothing", x.count(7), 2);
                for (int i = 0; i < 5; i++) {
                    due(call + " leaves the claim " + i, x.claim(i, 2), new int[] {1, 2, 3, 3, 3}[i]);
                }
                due(call + " leaves the text", x.put(4), NONE);
                due(call + " leaves the latest state", then(x.undo(), x.stage(0, 2)), 1);
                due(call + " leaves the other state", then(x.undo(), x.stage(0, 2)), 0);
                due(call + " leaves the snapshot", x.restore(), 1);
                for (int i = 0; i < 5; i++) {
                    due(call + " leaves the kept claim " + i, put(x, i, texts[i]), NONE);
                }
            }
        }
    }

    // ---- the snapshot

    /** "There is one snapshot, empty at first." */
    private static void snapshotEmptyAtFirst() {
        unchanged("restore at first", BARE, x -> x.restore(), NONE);
        unchanged("restore after acts", x -> growTree(x), x -> x.restore(), NONE);
        unchanged("restore after a full history", x -> growChain(x, 8), x -> x.restore(), NONE);
        StageTruths x = tree();
        x.undo();
        due("undo makes none", x.restore(), NONE);
        due("keep makes one", x.keep(), 3);
        due("restore then", x.restore(), 3);
    }

    /** The same sentence: the second one is in place of the first one. */
    private static void oneSnapshot() {
        StageTruths x = new StageTruths();
        x.keep();
        x.addStage(0);
        x.keep();
        x.addStage(0);
        due("the second one", x.restore(), 2);
        due("it stays", x.restore(), 2);
        x.undo();
        x.undo();
        x.undo();
        x.undo();
        due("nothing is left of the first one", x.restore(), 2);
    }

    /** "A state is everything but the text, the history and the snapshot." The text: */
    private static void aStateIsWithoutTheText() {
        StageTruths x = new StageTruths();
        text(x, "T");
        x.keep();
        x.addStage(0);
        x.type('&');
        x.type('F');
        due("undo leaves the text", then(x.undo(), x.count(8)), 3);
        due("restore leaves the text", then(x.restore(), x.count(8)), 3);
        due("its characters, too", x.put(0), 0);
        due("its characters, too", x.claim(0, 2), 3);
        x.clearText();
        x.undo();
        due("undo brings no text back", x.count(8), 0);
        x.restore();
        due("restore brings no text back", x.count(8), 0);
    }

    /** The history: */
    private static void aStateIsWithoutTheHistory() {
        StageTruths x = new StageTruths();
        x.learn(0, 0);
        x.learn(0, 1);
        x.keep();
        x.undo();
        x.undo();
        due("restore brings no history back", then(x.restore(), x.count(7)), 1);
        due("restore recorded what was before it", then(x.undo(), x.stage(0, 2)), 0);
        StageTruths y = new StageTruths();
        y.keep();
        y.learn(0, 0);
        y.learn(0, 1);
        due("restore leaves the history", then(y.restore(), y.count(7)), 3);
        due("restore leaves the history", then(y.undo(), y.stage(0, 2)), 3);
        due("restore leaves the history", then(y.undo(), y.stage(0, 2)), 1);
        due("restore leaves the history", then(y.undo(), y.stage(0, 2)), 0);
    }

    /** The snapshot: */
    private static void aStateIsWithoutTheSnapshot() {
        StageTruths x = new StageTruths();
        x.learn(0, 0);
        x.keep();
        x.undo();
        due("undo leaves the snapshot", then(x.restore(), x.stage(0, 2)), 1);
        x.learn(0, 1);
        due("what is learned later is not in it", then(x.restore(), x.stage(0, 2)), 1);
        put(x, 0, "a");
        x.keep();
        x.drop(0);
        x.restore();
        due("the shelf is in it", x.claim(0, 2), 1);
        x.undo();
        due("restore is undone", x.claim(0, 2), UNKNOWN);
        due("undo of restore leaves the snapshot", then(x.restore(), x.claim(0, 2)), 1);
    }

    // ---- bits and calls

    /** "Sets .. are told as bits: 1 for the number 0, 2 for 1, 4 for 2, and so on." */
    private static void setsAreBits() {
        StageTruths x = new StageTruths();
        for (int i = 1; i < 8; i++) {
            x.addStage(0);
        }
        for (int i = 1; i < 8; i++) {
            due("bit " + i, x.stage(i, 0), 1 << i);
            due("bit " + i + " and 0", x.stage(i, 1), 1 | 1 << i);
            due("learned at " + i, x.learn(i, 3), (1 << i + 1) - 2);
        }
        due("facts", x.stage(7, 2), 8);
        due("stages", put(x, 4, "d"), 254);
        due("places", x.fewestPremises(16, 4), 16);
        due("last stages", x.count(3), 254);
        due("first stages", x.count(4), 1);
        due("all stages", put(x, 0, "T"), 255);
    }

    /** "An object is used for at most 512 calls after it has been made" */
    private static void fiveHundredTwelveCalls() {
        StageTruths x = new StageTruths();
        for (int call = 1; call <= 509; call++) {
            int at = call % 3;
            int got = at == 0 ? x.learn(0, 2) : at == 1 ? x.undo() : x.keep();
            due("call " + call, got, at == 1 ? call == 1 ? NONE : 0 : 1);
        }
        due("call 510", x.learn(0, 0), 1);
        due("call 511", x.count(7), 1);
        due("call 512", x.undo(), 0);
        StageTruths y = shelf("~~(a>b)>~~a>~~b", "(a>b|c)|(b>a|c)|(c>a|b)");
        int calls = 2 + 15 + 23 + 2;
        for (; calls < 511; calls++) {
            y.follows(calls % 4, calls % 2);
        }
        due("call 512", y.follows(0, 0), 1);
    }
}
