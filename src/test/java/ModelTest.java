import java.util.Map;
import java.util.TreeMap;

/**
 * All promises: long mixed runs of calls, each answer held beside the Model's. What a refused call
 * would change shows in the answers after it.
 */
public final class ModelTest {
    private static final int RUNS = 400;
    private static final int CALLS = 512;
    private static final String[] METHODS = {
        "weeks", "weeks", "weeks", "sale", "sale", "sale", "sale", "sale", "strike", "sold", "weekly", "average",
        "towns", "scale", "step", "step", "step", "hang", "unhang", "force", "duty", "cargo", "spoil",
        "letOut", "letOut", "letOut", "letOut", "letOut", "letOut", "ship", "bond", "chest",
        "worth", "worth", "worth", "other", "other", "gain", "gain", "best", "best", "count"};
    /** The refusals that each method has, beside BAD: n for NOT, f for FULL, - for not even BAD. */
    private static final String REFUSALS = "weeks: sale:f strike:n sold: weekly: average: towns: scale:f step:nf "
        + "hang:n unhang:n force: duty: cargo:f spoil: letOut:nf ship:n bond: chest:- worth: other: gain: best: "
        + "count: ";
    private static final Check CHECK = new Check();
    private static final Map<String, Integer> SEEN = new TreeMap<>();

    /** A plain generator, so that every run of the test is the same. */
    private static long seed;

    public static void main(String[] args) {
        for (int run = 0; run < RUNS; run++) {
            seed = 7919L * run + 1;
            play(run);
        }
        refusalsWereMet();
        CHECK.end();
    }

    private static int below(int bound) {
        seed = seed * 6364136223846793005L + 1442695040888963407L;
        return (int) ((seed >>> 33) % bound);
    }

    private static void play(int run) {
        CornLaws x = new CornLaws();
        Model model = new Model();
        // Some runs go on slowly, so that returns and lettings out come to stand close together.
        int pace = 1 + below(5);
        boolean few = below(2) == 0;
        // A method called again and again meets its FULL.
        String favourite = METHODS[below(METHODS.length)];
        for (int i = 0; i < CALLS; i++) {
            String method = below(3) == 0 ? favourite : METHODS[below(METHODS.length)];
            int[] a = arguments(method, model.now(), pace, few, i);
            long want = model.call(method, a);
            CHECK.due("run " + run + " call " + i + ": " + told(method, a), answer(x, method, a), want);
            SEEN.merge(method + " " + (want == Long.MIN_VALUE ? -2 : want < 0 ? want : 0), 1, Integer::sum);
        }
    }

    private static String told(String method, int[] a) {
        StringBuilder text = new StringBuilder(method);
        for (int one : a) {
            text.append(' ').append(one);
        }
        return text.toString();
    }

    /** Mostly a number from least to most; now and then an edge, or one out of them. */
    private static int number(int least, int most) {
        switch (below(60)) {
            case 0: return least - 1;
            case 1: return most + 1;
            case 2: return below(2) == 0 ? Integer.MIN_VALUE : Integer.MAX_VALUE;
            case 3: return least;
            case 4: return most;
            default: return most < least ? least : least + below(most - least + 1);
        }
    }

    private static int[] arguments(String method, int now, int pace, boolean few, int call) {
        int near = Math.max(0, now - 8);
        int grain = number(0, few ? 1 : 2);
        int price = few ? number(40, 70) : number(1, 2000);
        int scale = number(0, few ? 2 : 7);
        int cargo = number(0, few ? 2 : 19);
        switch (method) {
            case "weeks": return new int[] {below(10) == 0 ? number(1, 20) : number(1, pace)};
            case "sale": return new int[] {number(0, 9), grain, number(near, now), number(1, few ? 9 : 1000), price};
            case "strike": return new int[] {number(0, 59)};
            case "sold": return new int[] {number(0, 59), number(0, 6)};
            case "weekly": return new int[] {grain, number(near, now), number(near, now + 3)};
            case "average": return new int[] {grain, number(0, now + 20)};
            case "towns": return new int[] {number(near, now), number(near, now + 1)};
            case "scale": return new int[] {grain, below(3) == 0 ? number(now, 200) : number(now, now + 9)};
            case "step": return new int[] {scale,
                few ? number(30 + call / 12, 40 + call / 12) : number(3 * call, 4 * call), number(0, 2000)};
            case "hang": return new int[] {grain, number(0, 2), number(1, 100), number(1, 100)};
            case "unhang": return new int[] {grain};
            case "force":
            case "duty": return new int[] {grain, number(near, now + 20)};
            case "cargo": return new int[] {grain, number(1, 10000)};
            case "spoil": return new int[] {number(0, 100)};
            case "letOut":
            case "ship": return new int[] {cargo, below(9) == 0 ? number(1, 10000) : number(1, 50)};
            case "bond": return new int[] {cargo, number(0, 5)};
            case "chest": return new int[] {};
            case "worth": return new int[] {number(0, 20)};
            case "other": return new int[] {scale};
            case "gain": return new int[] {cargo, number(now, now + 20), number(0, 2000)};
            case "best": return new int[] {cargo, number(0, 20), number(0, 2000)};
            default: return new int[] {number(0, 5)};
        }
    }

    private static long answer(CornLaws x, String method, int[] a) {
        switch (method) {
            case "weeks": return x.weeks(a[0]);
            case "sale": return x.sale(a[0], a[1], a[2], a[3], a[4]);
            case "strike": return x.strike(a[0]);
            case "sold": return x.sold(a[0], a[1]);
            case "weekly": return x.weekly(a[0], a[1], a[2]);
            case "average": return x.average(a[0], a[1]);
            case "towns": return x.towns(a[0], a[1]);
            case "scale": return x.scale(a[0], a[1]);
            case "step": return x.step(a[0], a[1], a[2]);
            case "hang": return x.hang(a[0], a[1], a[2], a[3]);
            case "unhang": return x.unhang(a[0]);
            case "force": return x.force(a[0], a[1]);
            case "duty": return x.duty(a[0], a[1]);
            case "cargo": return x.cargo(a[0], a[1]);
            case "spoil": return x.spoil(a[0]);
            case "letOut": return x.letOut(a[0], a[1]);
            case "ship": return x.ship(a[0], a[1]);
            case "bond": return x.bond(a[0], a[1]);
            case "chest": return x.chest();
            case "worth": return x.worth(a[0]);
            case "other": return x.other(a[0]);
            case "gain": return x.gain(a[0], a[1], a[2]);
            case "best": return x.best(a[0], a[1], a[2]);
            default: return x.count(a[0]);
        }
    }

    /** A run that met no refusal, or refused all, would prove little. */
    private static void refusalsWereMet() {
        for (String entry : REFUSALS.split(" ")) {
            String method = entry.substring(0, entry.indexOf(':'));
            String kinds = entry.substring(entry.indexOf(':') + 1);
            met(method + " 0");
            if (!kinds.equals("-")) {
                met(method + " -2");
            }
            if (kinds.indexOf('n') >= 0) {
                met(method + " -3");
            }
            if (kinds.indexOf('f') >= 0) {
                met(method + " -4");
            }
        }
    }

    private static void met(String answer) {
        CHECK.holds("answers met often enough: " + answer, SEEN.getOrDefault(answer, 0) >= 20);
    }
}
