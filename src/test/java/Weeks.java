/** Lets weeks go on further than one call can. */
final class Weeks {
    private static final int MOST_AT_ONCE = 20;

    private Weeks() {
    }

    static CornLaws newAt(int week) {
        CornLaws x = new CornLaws();
        goTo(x, week);
        return x;
    }

    static void goTo(CornLaws x, int week) {
        for (int left = week - x.count(0); left > 0; left -= MOST_AT_ONCE) {
            x.weeks(Math.min(left, MOST_AT_ONCE));
        }
    }
}
