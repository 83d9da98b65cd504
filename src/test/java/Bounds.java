import java.util.function.Consumer;

/** The bounds of one number of a call: the last that is taken and the first that is not, on each side. */
final class Bounds {
    /** A call of which one number is left open. */
    interface With {
        long answer(CornLaws x, int number);
    }

    private final Check check;
    private final String call;
    private final Consumer<CornLaws> before;
    private final With with;
    private final long bad;

    Bounds(Check check, String call, Consumer<CornLaws> before, With with, long bad) {
        this.check = check;
        this.call = call;
        this.before = before;
        this.with = with;
        this.bad = bad;
    }

    Bounds from(int least, long due) {
        taken(least, due);
        return refused(least - 1).refused(Integer.MIN_VALUE);
    }

    Bounds to(int most, long due) {
        taken(most, due);
        return refused(most + 1).refused(Integer.MAX_VALUE);
    }

    private void taken(int number, long due) {
        check.due(call + " " + number, with.answer(State.made(before), number), due);
    }

    Bounds refused(int number) {
        State.refused(check, call + " " + number, before, x -> with.answer(x, number), bad);
        return this;
    }
}
