import java.util.function.Consumer;
import java.util.function.Function;
import java.util.function.ToIntFunction;

/**
 * Holds the answers at the edges that the document names against what is due, one sentence of the
 * document after the other; what is wrong is printed with the sentence that is broken.
 */
final class Edges {
    /** A call of which one number is looked at. */
    interface Call {
        int with(AskedCamp x, int n);
    }

    private final Due due = new Due();
    private String sentence = "";
    private int sentences;

    /** What follows belongs to this sentence. */
    void sentence(String words) {
        sentence = words;
        sentences++;
    }

    void is(String call, long got, long want) {
        due.due("\"" + sentence + "\": " + call, got, want);
    }

    static AskedCamp made(Consumer<AskedCamp> setup) {
        AskedCamp x = new AskedCamp();
        setup.accept(x);
        return x;
    }

    static AskedCamp camp(String text) {
        return made(x -> Tape.camp(x, text));
    }

    static AskedCamp camp(String text, String rule) {
        AskedCamp x = camp(text);
        Tape.rule(x, rule);
        x.force(0);
        return x;
    }

    /** Behind the one all that can be seen is as it is behind the other. */
    void alike(String call, Consumer<AskedCamp> one, Consumer<AskedCamp> other) {
        for (Function<AskedCamp, String> look : Looks.ALL) {
            String got = look.apply(made(one));
            String want = look.apply(made(other));
            if (!got.equals(want)) {
                is(call + " and then\n" + got + "due is\n" + want, 0, 1);
                return;
            }
        }
    }

    /** The answer is as due, and nothing happens: all is as without that call. */
    void leaves(String call, Consumer<AskedCamp> setup, ToIntFunction<AskedCamp> asked, int want) {
        is(call, asked.applyAsInt(made(setup)), want);
        alike(call, setup.andThen(asked::applyAsInt), setup);
    }

    /**
     * Refused, and nothing happens, at the first number below and the first above what is allowed,
     * and far beyond; at the last ones that are allowed it is not refused.
     */
    void range(String call, Consumer<AskedCamp> setup, Call asked, int low, int high, int refusal) {
        for (int n : new int[] {Integer.MIN_VALUE, low - 1, high + 1, Integer.MAX_VALUE}) {
            leaves(call + " with " + n, setup, x -> asked.with(x, n), refusal);
        }
        for (int n : new int[] {low, high}) {
            int answer = asked.with(made(setup), n);
            is(call + " with " + n + " is not refused by " + answer, answer == refusal ? 1 : 0, 0);
        }
    }

    void close() {
        System.out.println(sentences + " sentences");
        due.close();
    }
}
