import java.util.function.Consumer;
import java.util.function.ToIntFunction;

/**
 * Two objects with the same calls behind them, of which one is asked one thing more: if that changes nothing,
 * both answer the same from then on. The stages, the shelf, each state of the history, the snapshot and the
 * text are looked at, each with a pair of its own, as looking at the later ones changes things.
 */
abstract class Twins extends Checks {
    private static final int VIEWS = 3;
    private static final int[] TOLD_OF_CLAIMS = {0, 3, 4, 7};

    /** Nothing was done yet. */
    static final Consumer<StageTruths> BARE = x -> {
    };
    /** The state is the one of a new object, but the history is full, and there is a snapshot and a text. */
    static final Consumer<StageTruths> FURNISHED = x -> {
        x.learn(0, 3);
        x.keep();
        x.undo();
        put(x, 2, "c|d");
        x.drop(2);
        x.learn(0, 2);
        x.forget(0, 2);
        text(x, "a>~b");
    };
    /** As FURNISHED, but nothing is in the history. */
    static final Consumer<StageTruths> FORGETFUL = x -> {
        FURNISHED.accept(x);
        for (int i = 0; i < 4; i++) {
            x.undo();
        }
    };

    /** As FURNISHED, but there is a claim on each place, and the states of the history have fewer of them. */
    static final Consumer<StageTruths> SHELVED = x -> {
        FURNISHED.accept(x);
        fill(x, "a", "b&c", "~d", "c>d", "T|a");
        text(x, "a>~b");
    };
    /** As SHELVED, but there are four stages. */
    static final Consumer<StageTruths> GROWN = x -> {
        growTree(x);
        x.learn(2, 1);
        SHELVED.accept(x);
    };

    /** A call that must change nothing if the state was the one of a new object. */
    static void unchangedFromNew(String call, Consumer<StageTruths> before, ToIntFunction<StageTruths> ask, int due) {
        unchanged(call, BARE.andThen(before), ask, due);
        unchanged(call + ", furnished", FURNISHED.andThen(before), ask, due);
        unchanged(call + ", forgetful", FORGETFUL.andThen(before), ask, due);
    }

    /** A call that must be refused, what claims ever there were at first. */
    static void refused(String call, Consumer<StageTruths> before, ToIntFunction<StageTruths> ask, int due) {
        unchangedFromNew(call, before, ask, due);
        unchanged(call + ", shelved", SHELVED.andThen(before), ask, due);
    }

    /** A call that must be refused, what claims and stages ever there were at first. */
    static void refusedAlways(String call, Consumer<StageTruths> before, ToIntFunction<StageTruths> ask, int due) {
        refused(call, before, ask, due);
        unchanged(call + ", grown", GROWN.andThen(before), ask, due);
    }

    /** A call that must change nothing, whatever it answers. */
    static void unchanged(String call, Consumer<StageTruths> before, ToIntFunction<StageTruths> ask, int due) {
        for (int view = 0; view < VIEWS; view++) {
            StageTruths asked = new StageTruths();
            StageTruths other = new StageTruths();
            before.accept(asked);
            before.accept(other);
            due(call, ask.applyAsInt(asked), due);
            due(call + ": changes nothing (" + view + ")", look(asked, view), look(other, view));
        }
    }

    private static String look(StageTruths x, int view) {
        StringBuilder told = new StringBuilder(lengths(x)).append(told(x));
        if (view == 0) {
            for (int i = 0; i < 5; i++) {
                told.append(" undo ").append(x.undo()).append(told(x));
            }
        } else if (view == 1) {
            told.append(" restore ").append(x.restore()).append(lengths(x)).append(told(x));
            told.append(" undo ").append(x.undo()).append(told(x));
        } else {
            told.append(" put ").append(x.put(4)).append(lengths(x)).append(told(x));
            told.append(" type ").append(x.type('&')).append(x.type('b')).append(x.put(4));
            told.append(lengths(x)).append(told(x));
        }
        return told.toString();
    }

    /** Of the history and of the text. */
    private static String lengths(StageTruths x) {
        return " (" + x.count(7) + " " + x.count(8) + ")";
    }

    /** What is told of the state; some 50 calls at most, as an object is used for 512. */
    static String told(StageTruths x) {
        StringBuilder told = new StringBuilder(" [");
        for (int what = 0; what <= 6; what++) {
            told.append(x.count(what)).append(' ');
        }
        for (int stage = 0, stages = x.count(0); stage < stages; stage++) {
            told.append("; ").append(x.stage(stage, 0)).append(' ').append(x.stage(stage, 2));
        }
        for (int place = 0; place < 5; place++) {
            int size = x.claim(place, 2);
            told.append("; ").append(size);
            for (int i = 0; i < TOLD_OF_CLAIMS.length && size > 0; i++) {
                told.append(' ').append(x.claim(place, TOLD_OF_CLAIMS[i]));
            }
        }
        return told.append(']').toString();
    }
}
