import java.util.function.Consumer;
import java.util.function.ToLongFunction;

/** Shows that a refused call changes nothing, by all that an object answers after it. */
final class State {
    private static final int GRAINS = 3;

    private final CornLaws x;
    private final StringBuilder answers = new StringBuilder();

    private State(CornLaws x) {
        this.x = x;
    }

    /** The call, on an object that was told 'before', is answered as is due, and nothing changes. */
    static void refused(Check check, String call, Consumer<CornLaws> before,
            ToLongFunction<CornLaws> asked, long due) {
        CornLaws x = made(before);
        check.due(call, asked.applyAsLong(x), due);
        check.same(call + ": what stands after it", of(x), of(made(before)));
    }

    static CornLaws made(Consumer<CornLaws> before) {
        CornLaws x = new CornLaws();
        before.accept(x);
        return x;
    }

    /** All answers of an object; it is told more in the end, so it is of no further use. */
    static String of(CornLaws x) {
        State state = new State(x);
        state.counts();
        state.returns();
        state.scales();
        state.cargoes();
        state.whatIf();
        state.whatMoreBrings();
        return state.answers.toString();
    }

    private void add(String what, long answer) {
        answers.append(what).append(' ').append(answer).append(", ");
    }

    private void counts() {
        for (int what = 0; what <= 5; what++) {
            add("count", x.count(what));
        }
        add("chest", x.chest());
    }

    private void returns() {
        for (int k : new int[] {0, 1, 2, x.count(1) - 1}) {
            for (int what = 0; what <= 6; what++) {
                add("sold", x.sold(k, what));
            }
        }
        int now = x.count(0);
        for (int grain = 0; grain < GRAINS; grain++) {
            add("weekly", x.weekly(grain, now, now));
            add("weekly", x.weekly(grain, 200, 200));
            add("average", x.average(grain, now));
            add("average", x.average(grain, 220));
        }
        add("towns", x.towns(0, now));
        add("towns", x.towns(now, 200));
    }

    private void scales() {
        for (int grain = 0; grain < GRAINS; grain++) {
            for (int t : new int[] {0, x.count(0), 200, 220}) {
                add("force", x.force(grain, t));
                add("duty", x.duty(grain, t));
            }
        }
    }

    private void cargoes() {
        for (int c : new int[] {0, 1, x.count(4) - 1}) {
            for (int what = 0; what <= 5; what++) {
                add("bond", x.bond(c, what));
            }
        }
    }

    private void whatIf() {
        int now = x.count(0);
        for (int k = 0; k < 3; k++) {
            add("worth", x.worth(k));
            add("gain", x.gain(k, now, 1000));
            add("gain", x.gain(k, now + 20, 1000));
            add("best", x.best(k, 20, 1000));
        }
        for (int s = 0; s < 8; s++) {
            add("other", x.other(s));
        }
    }

    /** What can't be asked shows in what the next calls answer. */
    private void whatMoreBrings() {
        for (int s = 0; s < 8; s++) {
            add("step", x.step(s, 2000, 7));
        }
        for (int grain = 0; grain < GRAINS; grain++) {
            add("unhang", x.unhang(grain));
        }
        add("sale", x.sale(0, 0, 0, 1, 1));
        add("strike", x.strike(0));
        add("scale", x.scale(0, 200));
        add("cargo", x.cargo(0, 1));
        for (int c = 0; c < 3; c++) {
            add("letOut", x.letOut(c, 1));
            add("ship", x.ship(c, 1));
        }
        add("weeks", x.weeks(1));
        cargoes();
        scales();
        add("spoil", x.spoil(0));
    }
}
