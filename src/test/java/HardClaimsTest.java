import java.util.Random;

/** What follows from large claims, from texts bred to be hard too, compared with PlainTruths. */
public final class HardClaimsTest {
    /** Shelves that were bred to make the search long. */
    private static final String[][] BRED = {
        {"((((a)|(((a)|a))|~a>b&c&d)))", "(~(((c)))|~c|~~(c))|~c|(F>d)|b", "(((((~(~F)))))|(~~F|c))|~(F>F)",
            "(~(~d)>~~d)>~(c&((d>c)))|(d)|d", "(~((F))>~(d))|(~(((b)|b>c)))|b"},
        {"(((~~F)>F)|a|(a>a))|(~~F>~F)>c", "(((~~a)>c))&(d&(~~(c))>c)>c>c", "((((c>d))|d))|((a|a>(c))>d)|d",
            "(~~((((c)&(c))))|a|a|a>T&~F)>c", "(~(~~b)|~(b)|~~b|b|b|b>c)&~d>c"},
        {"~(((~(~(~~~~b>(b))>b))>(b)))>b", "(~((c))>a)|c|~F|((a>a))|c|~(F)", "((((d|((d))>(b))>d))>d)>~~T|~c",
            "(((((a))|a))|~((F)&~F)|a|a|a)", "((((F))&(~b>(b))>b)|(~T>F)|~b)"},
        {"(~~(((a)))&~(((b)>F))>(F)|b)>b", "((((d)|d)|~~~~(d)|d)|d>b)&d>d", "(~~~(F)|a|~(~T)>((a))|a>b)&c>b",
            "((((c|c))|((c)|~c)|c|c>b))&c>c", "(((((~(~b)))))>(b)|~~d|F)&~b>b"},
        {"(((c>(F>a&d)>c&((F)))>d)>a)>a", "(((((c|c>a)))))&~c&(~~c>a)>d", "((((~~a))))|(~(F))|(~F|(~~a))",
            "((((d)>~(T)))>((a)))|~~(d)|~~d", "(~((~b))|b|b|b|~(a>b)|b|b|b)|b"},
        {"((~~(~~(~~(c)))>(F|(~~c)))&c)", "(((((b)|((b))))|T&b))|b|b|b|b", "((c)>(~~((d))|~a))>c|(c|c)|c&d",
            "(((~~(~F))|(c&~~~b>a)))|~(c>a)", "(((((d|d))|d)|d|d)|d)|(d)|d|d"},
        {"(~((~((d)>(c)))))>(((b|b)))>c", "((((F>(c))))|~~a)|(c>d)|~~b&T", "(a>~c)|((~c)|((~F>~c)|~c))|~c",
            "((d)|d|~((d>a|(a|a)>c&F))|d|d)", "~(a|((a|a))>c)|a|(T>a|a)|~~F|a"},
        {"~~~~~~~~~~~~~~~~~~~~~~~~~~~~~a", "~~~~~~~~~~~~~~~~~~~~~~~~~~~~~b", "~~~~~~~~~~~~~~~~~~~~~~~~~~~~~c",
            "~~~~~~~~~~~~~~~~~~~~~~~~~~~~~d", "~~~~~~~~~~~~~~~~~~~~~~~~~~~~~T"},
        {"~~~~~~~~~~~~~~~~~~~~~~~~~~~~a", "~~~~~~~~~~~~~~~~~~~~~~~~~~~~b", "~~~~~~~~~~~~~~~~~~~~~~~a>b>a",
            "~~~~~~~~~~~~~~~~~~~~~~~b>c", "~~~~~~~~~~~~~~~~~~~~~~~~~~~~~d"}};

    /** What fails in deep or broad models alone. */
    private static final String[] DEEP = {"a|(a>(b|(b>(c|~c))))", "(a>b|c)|(b>a|c)|(c>a|b)",
        "((~~a>a)>(a|~a))>(~a|~~a)", "(~a>b|c)>(~a>b)|(~a>c)", "(a>b)|(b>c)|(c>d)|(d>a)",
        "((a>b)>b)|((b>c)>c)|(a>c)", "a|(a>b|(b>c|(c>d|~d)))", "((a>b)>c)>((b>a)>c)>c",
        "((a>b)>a|c)>(a|c)|(b>c)", "(~~a>a)|((~~a>a)>(a|~a))", "((~~a>a)>a|~a)>~~a|~a|b"};

    /**
     * With parts of their own, so that with four long chains of "~" before them there are more than 128
     * parts, the whole of these being the last ones.
     */
    private static final String[] LONG = {"a|(a>(b|(b>~~~~~~~~~~~~~~F)))", "(a>b|~~~~~~~~~~~T)&(b>c)>a>c|d",
        "((a>b)>~~~~~~~~~~~T|a)>(b>a)>a", "(a|b|~~~~~~~~~~~~~T)&(b>a)>a|c", "(a>b)|(b>a)|(~~~~~~~~~~~F>c)",
        "((a>b)>b)&(a>~~~~~~~~~~~~F)>b", "(a|~~~~~~~~~~~F>b)>(c>b|d)|~a", "((c>~~~~~~~~~~~~F)>a|b)>c|a|b"};

    /** Shelves that were bred to tell if anything of a question is left over when the next one is asked. */
    private static final String[][] ASKED_AGAIN = {
        {"(~(a>(~c>~c)>~a)>b>a)>~(b>~a)", "~c|b|c&~c", "(~a>a)>a", "~~((b>a)&(~a|(~T|(b&b))))|~a",
            "a|(a|(d>~a)>(c>b))"},
        {"b|((b>(T>d)&~~a)|~d)", "~b|((c>d|(a>d))|~a)>d&c", "(~~b|~(b>c)>b)>a&(d&c)",
            "((~b>b)>(T|d)&d)|(d|a>T&a)", "(((~a>d)>b)>b)|~(T&b)&(d>a)"},
        {"(a>b|c|(~c|b))>(~b|a)&(~a>a)|T", "~(~c|~c)|(b|a)|(a>a>~a>F)", "a|b|c>((b|~(~a>b))&~(c>~b))",
            "(~T>b)&(((~b|~a)|a)&(a>c)>a)", "~a|((~F>b)|a|a)>a"},
        {"(b&a>a)&a|~b", "((b|~d)|a>b|b|~(b&b))|a", "((~b|a>~b)>b)|(c|~b&~b)", "b&a|((a>b)|a)",
            "b|~(b&~a)|~c|(d|b>b)"},
        {"(c>c)|a", "(d>b|~a)>(~a>b)&(a|d)", "(~a>~a)&~((~a>a)>b>~a)", "~~b&(c>b)&F>b", "((c&b)>a)>a>b"},
        {"(~(~T>~b)>a>~b)&(~a>~a)", "(d>b|~a)>(~a>a)&(a|d)", "(~a>c)&~((~b>c)&b>~a)", "~~b&(c>b)&a>b",
            "((c&b)>a)>T>b"},
        {"(d>~d)&(~b|~a>d)", "~b|(a&b>b)>(b>c)|a", "((b&d>d)|d>~b>~b)>d>F", "(~c>d)>~d&((c|b|d>b)>~~b)",
            "((a>b)>b|b&d>a&b)>b"}};

    private static Random random;
    private static int facts;
    private static int nots;
    private static int mix;
    private static int wrong = 0;
    private static int compared = 0;
    private static int skipped = 0;
    private static int deep = 0;

    /** Long texts of which no two have a part in common; what is made of "c" alone is asked about. */
    private static final String CHAIN_A = "~".repeat(29) + "a";
    private static final String CHAIN_B = "~".repeat(29) + "b";
    private static final String CHAIN_D = "~".repeat(29) + "d";

    public static void main(String[] args) {
        wideSets();
        findingsOfOneCall();
        stagesMetAgain();
        for (String[] texts : ASKED_AGAIN) {
            askedAgain(texts);
        }
        long first = args.length > 0 ? Long.parseLong(args[0]) : 1;
        int runs = args.length > 1 ? Integer.parseInt(args[1]) : 1500;
        for (String[] texts : BRED) {
            compareAll(texts);
        }
        for (long seed = first; seed < first + runs; seed++) {
            random = new Random(seed);
            facts = 1 + random.nextInt(4);
            nots = 15 * random.nextInt(4);
            mix = random.nextInt(4);
            String[] texts = new String[5];
            for (int i = 0; i < 5; i++) {
                int kind = random.nextInt(4);
                texts[i] = kind == 0 ? changed(BRED[random.nextInt(BRED.length)][random.nextInt(5)])
                    : kind == 1 ? changed(DEEP[random.nextInt(DEEP.length)]) : freshClaim();
            }
            if (random.nextInt(5) == 0) {
                chains(texts);
            }
            compareSome(texts);
            if (seed % 10 == 0) {
                askedAgain(texts);
            }
        }
        System.out.println(compared + " answers compared, " + deep + " of them of models with more than 3 stages, "
            + skipped + " skipped, " + wrong + " not as due");
        if (wrong != 0 || skipped * 20 > compared || deep == 0) {
            System.exit(1);
        }
    }

    private static void due(String what, int got, int want) {
        compared++;
        if (got != want) {
            wrong++;
            System.out.println(what + " answered " + got + ", due is " + want);
        }
    }

    private static StageTruths shelf(String... texts) {
        StageTruths x = new StageTruths();
        fill(x, new PlainTruths(), texts);
        return x;
    }

    /**
     * From "~c" follows "c|(c>F)", but not from nothing. The stage that shows the latter does not show the former,
     * which just the part "~c" tells: it is among the first 64 parts, the next ones, and those from 128 on.
     */
    private static void wideSets() {
        due("first parts", shelf("T&~c", CHAIN_A, CHAIN_B, CHAIN_D, "c|(c>F)").fewestPremises(15, 4), 1);
        due("middle parts", shelf("c|(c>F)", CHAIN_A, CHAIN_B, CHAIN_D, "T&~c").fewestPremises(30, 0), 16);
        String first = "c|(c>F)|" + "~".repeat(21) + "T";
        due("last parts", shelf(first, CHAIN_A, CHAIN_B, CHAIN_D, "~".repeat(11) + "F&~c").fewestPremises(30, 0), 16);
        // What was found for "~~c" tells nothing of "c&T", nor the other way round: that is the part 128.
        String chain = "~".repeat(29) + "F";
        String[] last = {"~~~~~~c|(c&T>c)|(~~c>c)", "~~~~~~c|(~~c>c)&(c&T>c)"};
        due("a stage that was found", shelf(CHAIN_A, CHAIN_B, CHAIN_D, chain, last[0]).follows(15, 4), 1);
        due("a proof that was found", shelf(CHAIN_A, CHAIN_B, CHAIN_D, chain, last[1]).follows(15, 4), 0);
    }

    /** The stage that shows that the right side does not follow is met again in the search for the left one. */
    private static void findingsOfOneCall() {
        due("behind an \"or\"", shelf("(a>(F>F)&T)|(a>(b|c>~~d>d)|F)").follows(0, 0), 1);
        due("behind an \"if\"", shelf("(a>(F>F)&T)|(a>(b>~~d>d)|F)").follows(0, 0), 1);
        due("behind two", shelf("(a>(~b>F>b)&T)|(a>(~~d>d)|~a)").follows(0, 0), 1);
    }

    /** It matters what holds at a stage that is met again, at once or after another question about the same shelf. */
    private static void stagesMetAgain() {
        metAgain(0, 0, 27, 2, "((c>~c)&c>a&b>c)&~~T>b|d", "d|((c>b)>b)|~~c", "b&(b>b)|(~d>~(d&b&F&b>~d))",
            "a|(~~c>~~b>b)&~(b|d|a)>d", "(b|(a>c)&a>c)|b");
        metAgain(0, 0, 21, 1, "d|d|(~c>a)|d|(d|~d)", "T&F|(~b&d>~~d)", "(~a>c)>d&b|(a>a)",
            "b|~~c|(c>a)&(~a>b)", "((c>a)>(~b>a)|(~~b>a))>~~(c&a)");
        metAgain(0, 0, 30, 0, "~(a>~c)&(d>c|b|(b>d&T))", "(a>(b&T)>b&b)&(b>a)", "((d>a)&~F&~~c|~d>a)|c&(c>c)",
            "~(((d>c)&b|a&c)>a>~d)", "(d>c)&(b|F>c)>a&d&d");
        metAgain(0, 0, 27, 2, "(b>b|b)>~~T&(b|c)", "((b>~a)&b>~a)|(~c>c>b|a)", "~~c|((~a>a)>b|a)",
            "(~d>~d)>(b>d)&(c>d)>d", "c|(c>~d>~c&T)|(~d>c)");
        metAgain(28, 0, 24, 2, "~c|(F>~c&(a&c))|((a>a)>~~b&T)", "T>((c>a)&~b>F)|(d|c&~c>~F|F)",
            "(b>b)&((d>(b>a)&b|a)>c|(b>a))", "(~b>b&c)|(c|c>b|a)", "((c|~a>F)>a)|(a>b)>T>a");
        metAgain(27, 2, 25, 2, "((d&a)>b>a)|(a&b>b)", "a&(a>b)&a>~a>~a", "(~~d>b>b)|((b>a)&(~c>a)>a)",
            "T&((~~a>a)>c&a|a)", "((~~b>a)&(a&(~a>~b)>b)>a)>d|d");
        metAgain(21, 1, 20, 1, "(~a>~b)>a>b", "((c>b)>T>c)&(b>c)", "(((~b>a)>c)&((F>b)>c)>~~b)",
            "((b&a>c)>c)>~~c", "(c&(~~b>d)>a&a|b)>(a>a)>c|c");
    }

    /** A question about a shelf, and then one to which the answer is 1. */
    private static void metAgain(int before, int beforePlace, int premises, int place, String... texts) {
        StageTruths x = shelf(texts);
        x.follows(before, beforePlace);
        String question = "follows(" + premises + ", " + place + ") of " + String.join(", ", texts);
        due(question, x.follows(premises, place), 1);
        PlainTruths plain = new PlainTruths();
        fill(new StageTruths(), plain, texts);
        int plainly = plain.follows(premises, place);
        due("the plain " + question, plainly == PlainTruths.TOO_LONG ? 1 : plainly, 1);
    }

    /** Long chains of "~" before the last text, so that its parts get the greatest numbers. */
    private static void chains(String[] texts) {
        boolean longest = random.nextInt(2) == 0;
        for (int i = 0; i < 4; i++) {
            char fact = (char) ('a' + i);
            String end = longest ? "" + fact
                : new String[] {"" + fact, "(" + fact + ">b)", "(a|" + fact + ")"}[random.nextInt(3)];
            texts[i] = "~".repeat((30 - end.length()) / 2 * 2) + end;
        }
        String[] ends = longest ? LONG : DEEP;
        String last = ends[random.nextInt(ends.length)];
        texts[4] = random.nextInt(3) == 0 ? last : changed(last);
    }

    private static String freshClaim() {
        String text = claim(5 + random.nextInt(25), 0);
        for (int i = 0; i < 100 && text.length() > 30; i++) {
            text = claim(5 + random.nextInt(20), 0);
        }
        return text.length() > 30 ? "a" : text;
    }

    private static String claim(int size, int where) {
        if (size <= 1) {
            int which = random.nextInt(30);
            return which == 0 ? "T" : which == 1 ? "F" : String.valueOf((char) ('a' + random.nextInt(facts)));
        }
        if (size == 2 || random.nextInt(100) < nots) {
            return "~" + claim(size - 1, 3);
        }
        int left = 1 + random.nextInt(size - 2);
        int right = size - 1 - left;
        int drawn = random.nextInt(10);
        int how = drawn < 4 + mix ? 0 : drawn < 8 ? 1 : 2;
        String text = how == 0 ? claim(left, 1) + ">" + claim(right, 0)
            : how == 1 ? claim(left, 1) + "|" + claim(right, 2)
            : claim(left, 2) + "&" + claim(right, 3);
        return how < where ? "(" + text + ")" : text;
    }

    /** A bred text with some signs of facts and of ways to join changed. */
    private static String changed(String text) {
        StringBuilder made = new StringBuilder(text);
        for (int i = random.nextInt(5); i > 0; i--) {
            int at = random.nextInt(made.length());
            char sign = made.charAt(at);
            if (sign >= 'a' && sign <= 'd' || sign == 'T' || sign == 'F') {
                made.setCharAt(at, "abcdabcdF".charAt(random.nextInt(9)));
            } else if (sign == '&' || sign == '|' || sign == '>') {
                made.setCharAt(at, "&|>>".charAt(random.nextInt(4)));
            }
        }
        return made.toString();
    }

    private static void compareAll(String[] texts) {
        StageTruths real = new StageTruths();
        PlainTruths plain = new PlainTruths();
        fill(real, plain, texts);
        for (int place = 0; place < 5; place++) {
            for (int premises = 0; premises < 32; premises++) {
                if ((premises >> place & 1) == 0) {
                    compare(real, plain, texts, premises, place);
                }
            }
        }
    }

    /** What was asked before makes no difference: a new object answers each question in the same way. */
    private static void askedAgain(String[] texts) {
        StageTruths x = shelf(texts);
        for (int place = 0; place < 5; place++) {
            int others = 31 & ~(1 << place);
            for (int premises = others; premises >= 0; premises--) {
                if ((premises & ~others) == 0) {
                    due("again: follows(" + premises + ", " + place + ") of " + String.join(", ", texts),
                        x.follows(premises, place), shelf(texts).follows(premises, place));
                }
            }
        }
        for (int place = 0; place < 5; place++) {
            int others = 31 & ~(1 << place);
            due("again: fewestPremises(" + others + ", " + place + ") of " + String.join(", ", texts),
                x.fewestPremises(others, place), shelf(texts).fewestPremises(others, place));
        }
    }

    private static void compareSome(String[] texts) {
        StageTruths real = new StageTruths();
        PlainTruths plain = new PlainTruths();
        fill(real, plain, texts);
        for (int i = 0; i < 10; i++) {
            int place = i == 0 ? 4 : random.nextInt(5);
            int premises = random.nextInt(32) & ~(1 << place);
            compare(real, plain, texts, i < 3 ? 31 & ~(1 << place) : premises, place);
        }
    }

    private static void fill(StageTruths real, PlainTruths plain, String[] texts) {
        for (int i = 0; i < texts.length; i++) {
            real.clearText();
            plain.clearText();
            for (char c : texts[i].toCharArray()) {
                real.type(c);
                plain.type(c);
            }
            if (real.put(i) < 0 || plain.put(i) < 0) {
                wrong++;
                System.out.println("not put: " + texts[i]);
            }
        }
    }

    private static void compare(StageTruths real, PlainTruths plain, String[] texts, int premises, int place) {
        int got = real.follows(premises, place);
        int due = plain.follows(premises, place);
        compared++;
        if (due == PlainTruths.TOO_LONG) {
            skipped++;
            return;
        }
        if (got != due) {
            wrong++;
            System.out.println("follows(" + premises + ", " + place + ") of " + String.join(", ", texts)
                + " answered " + got + ", due is " + due);
        }
        deep += due == 0 && real.fewestStages(premises, place) == StageTruths.NONE ? 1 : 0;
        if (random != null && random.nextInt(8) == 0) {
            int fewest = plain.fewestPremises(premises, place);
            if (fewest != PlainTruths.TOO_LONG && fewest != real.fewestPremises(premises, place)) {
                wrong++;
                System.out.println("fewestPremises(" + premises + ", " + place + ") of " + String.join(", ", texts));
            }
        }
    }
}
