/** Corn laws: returns and averages, scales of duties, corn in bond, and what might have been. */
public final class CornLaws {
    public static final int NONE = -1, BAD = -2, NOT = -3, FULL = -4;

    private static final int GRAINS = 3;
    private static final int TOWNS = 10;
    private static final int LAST_WEEK = 200;
    private static final int MOST_WEEKS_ON = 20;
    private static final int LAST_FORESEEN_WEEK = LAST_WEEK + MOST_WEEKS_ON;
    private static final int WEEKS_AVERAGED = 6;
    private static final int MOST_PENCE = 2000;
    private static final int MOST_RETURNS = 60;
    private static final int MOST_SOLD = 1000;
    private static final int MOST_SCALES = 8;
    private static final int MOST_STEPS = 8;
    private static final int MOST_PARTS = 100;
    private static final int MOST_CARGOES = 20;
    private static final int MOST_IN_CARGO = 10000;
    private static final int MOST_SPOIL = 100;
    private static final int MOST_LETTINGS = 100;
    /** GAIN and WORTH may be any number below 0, so BAD would be no sure sign there. */
    private static final long BAD_LONG = -9223372036854775808L;

    private final Returns returns;
    private final Scales scales;
    private final Hangings hangings;
    private final Cargoes cargoes;
    private final Lettings lettings;
    private int now;
    private int spoilRate;
    private long paid;

    public CornLaws() {
        returns = new Returns();
        scales = new Scales();
        hangings = new Hangings();
        cargoes = new Cargoes();
        lettings = new Lettings();
    }

    // ---- weeks, returns

    public int weeks(int n) {
        if (isOutside(n, 1, MOST_WEEKS_ON) || now + n > LAST_WEEK) {
            return BAD;
        }
        for (int i = 0; i < n; i++) {
            now++;
            cargoes.spoilAll(spoilRate);
        }
        return now;
    }

    public int sale(int town, int grain, int week, int quarters, int price) {
        if (isOutside(town, 0, TOWNS - 1) || isNoGrain(grain) || isOutside(week, 0, now)
                || isOutside(quarters, 1, MOST_SOLD) || isOutside(price, 1, MOST_PENCE)) {
            return BAD;
        }
        if (returns.size >= MOST_RETURNS) {
            return FULL;
        }
        return returns.add(town, grain, week, quarters, price, now);
    }

    public int strike(int k) {
        if (!returns.has(k)) {
            return BAD;
        }
        if (returns.struck[k] != NONE) {
            return NOT;
        }
        returns.struck[k] = now;
        return 1;
    }

    public int sold(int k, int what) {
        if (!returns.has(k)) {
            return BAD;
        }
        switch (what) {
            case 0: return returns.town[k];
            case 1: return returns.grain[k];
            case 2: return returns.week[k];
            case 3: return returns.quarters[k];
            case 4: return returns.price[k];
            case 5: return returns.sworn[k];
            case 6: return returns.struck[k];
            default: return BAD;
        }
    }

    public int weekly(int grain, int w, int t) {
        if (isNoGrain(grain) || isOutside(w, 0, LAST_WEEK) || isOutside(t, 0, LAST_WEEK)) {
            return BAD;
        }
        return returns.weeklyKnown(grain, w, t, NONE);
    }

    public int average(int grain, int t) {
        if (isNoGrain(grain) || isOutside(t, 0, LAST_FORESEEN_WEEK)) {
            return BAD;
        }
        return returns.averageKnown(grain, t, NONE);
    }

    public int towns(int w, int t) {
        if (isOutside(w, 0, LAST_WEEK) || isOutside(t, 0, LAST_WEEK)) {
            return BAD;
        }
        return returns.townsKnown(w, t);
    }

    // ---- scales

    public int scale(int grain, int week) {
        if (isNoGrain(grain) || isOutside(week, now, LAST_WEEK)) {
            return BAD;
        }
        if (scales.size >= MOST_SCALES) {
            return FULL;
        }
        return scales.add(grain, week, now);
    }

    public int step(int scale, int price, int duty) {
        if (!scales.has(scale) || isOutside(price, 0, MOST_PENCE) || isOutside(duty, 0, MOST_PENCE)
                || price <= scales.lastPrice(scale)) {
            return BAD;
        }
        if (scales.isSettled(scale, now)) {
            return NOT;
        }
        if (scales.steps[scale] >= MOST_STEPS) {
            return FULL;
        }
        return scales.addStep(scale, price, duty);
    }

    public int hang(int grain, int other, int up, int low) {
        if (isNoGrain(grain) || isNoGrain(other) || grain == other
                || isOutside(up, 1, MOST_PARTS) || isOutside(low, 1, MOST_PARTS)) {
            return BAD;
        }
        if (hangings.hangs(other) || hangings.bearsOne(grain)) {
            return NOT;
        }
        hangings.put(grain, other, up, low);
        return 1;
    }

    public int unhang(int grain) {
        if (isNoGrain(grain)) {
            return BAD;
        }
        if (!hangings.hangs(grain)) {
            return NOT;
        }
        hangings.take(grain);
        return 1;
    }

    public int force(int grain, int t) {
        if (isNoGrain(grain) || isOutside(t, 0, LAST_FORESEEN_WEEK)) {
            return BAD;
        }
        return scales.inForce(grain, t);
    }

    public int duty(int grain, int t) {
        if (isNoGrain(grain) || isOutside(t, 0, LAST_FORESEEN_WEEK)) {
            return BAD;
        }
        return dutyAt(grain, t, NONE, NONE);
    }

    // ---- bond

    public int cargo(int grain, int quarters) {
        if (isNoGrain(grain) || isOutside(quarters, 1, MOST_IN_CARGO)) {
            return BAD;
        }
        if (cargoes.size >= MOST_CARGOES) {
            return FULL;
        }
        return cargoes.add(grain, quarters, now);
    }

    public int spoil(int thousandths) {
        if (isOutside(thousandths, 0, MOST_SPOIL)) {
            return BAD;
        }
        int before = spoilRate;
        spoilRate = thousandths;
        return before;
    }

    public long letOut(int cargo, int n) {
        if (!cargoes.has(cargo) || isOutside(n, 1, MOST_IN_CARGO)) {
            return BAD;
        }
        if (n > cargoes.inBond[cargo]) {
            return NOT;
        }
        if (lettings.size >= MOST_LETTINGS) {
            return FULL;
        }
        int grain = cargoes.grain[cargo];
        long payment = (long) n * dutyAt(grain, now, NONE, NONE);
        cargoes.inBond[cargo] -= n;
        cargoes.out[cargo] += n;
        lettings.add(grain, n, now);
        paid += payment;
        return payment;
    }

    public int ship(int cargo, int n) {
        if (!cargoes.has(cargo) || isOutside(n, 1, MOST_IN_CARGO)) {
            return BAD;
        }
        if (n > cargoes.inBond[cargo]) {
            return NOT;
        }
        cargoes.inBond[cargo] -= n;
        cargoes.shipped[cargo] += n;
        return cargoes.inBond[cargo];
    }

    public int bond(int cargo, int what) {
        if (!cargoes.has(cargo)) {
            return BAD;
        }
        switch (what) {
            case 0: return cargoes.grain[cargo];
            case 1: return cargoes.inBond[cargo];
            case 2: return cargoes.out[cargo];
            case 3: return cargoes.shipped[cargo];
            case 4: return cargoes.spoilt[cargo];
            case 5: return cargoes.came[cargo];
            default: return BAD;
        }
    }

    public long chest() {
        return paid;
    }

    // ---- what if

    public long worth(int k) {
        if (!returns.has(k)) {
            return BAD_LONG;
        }
        return chestAnew(k, NONE) - paid;
    }

    public long other(int scale) {
        if (!scales.has(scale)) {
            return BAD;
        }
        return chestAnew(NONE, scale);
    }

    public long gain(int cargo, int t, int price) {
        if (!cargoes.has(cargo) || isOutside(t, now, now + MOST_WEEKS_ON)
                || isOutside(price, 0, MOST_PENCE)) {
            return BAD_LONG;
        }
        return gainAt(cargo, t, price);
    }

    public int best(int cargo, int n, int price) {
        if (!cargoes.has(cargo) || isOutside(n, 0, MOST_WEEKS_ON)
                || isOutside(price, 0, MOST_PENCE)) {
            return BAD;
        }
        int bestWeek = now;
        long greatest = gainAt(cargo, now, price);
        for (int t = now + 1; t <= now + n; t++) {
            long foreseen = gainAt(cargo, t, price);
            if (foreseen > greatest) {
                greatest = foreseen;
                bestWeek = t;
            }
        }
        return bestWeek;
    }

    public int count(int what) {
        switch (what) {
            case 0: return now;
            case 1: return returns.size;
            case 2: return returns.struckOnes();
            case 3: return scales.size;
            case 4: return cargoes.size;
            case 5: return lettings.size;
            default: return BAD;
        }
    }

    // ---- what the calls above share

    private static boolean isOutside(int number, int least, int most) {
        return number < least || number > most;
    }

    private static boolean isNoGrain(int grain) {
        return isOutside(grain, 0, GRAINS - 1);
    }

    /**
     * DUTY of a grain at t, as if the return 'without' had never been and the scale 'instead' were
     * in force for its grain at all weeks; NONE for either leaves things as they are.
     */
    private int dutyAt(int grain, int t, int without, int instead) {
        int ruling = hangings.rulingOver(grain);
        int scale = scales.isOf(instead, ruling) ? instead : scales.inForce(ruling, t);
        int average = returns.averageKnown(ruling, t, without);
        return hangings.inProportion(grain, scales.dutyBy(scale, average));
    }

    /** What the chest would have; 'without' and 'instead' as in dutyAt. */
    private long chestAnew(int without, int instead) {
        long sum = 0;
        for (int i = 0; i < lettings.size; i++) {
            int duty = dutyAt(lettings.grain[i], lettings.week[i], without, instead);
            sum += (long) lettings.quarters[i] * duty;
        }
        return sum;
    }

    private long gainAt(int cargo, int t, int price) {
        // From THE WEEK on nothing more gets known, so DUTY at t is by what is known now.
        long each = price - dutyAt(cargoes.grain[cargo], t, NONE, NONE);
        return each * cargoes.leftAfter(cargo, t - now, spoilRate);
    }

    /** All returns told, a row for each thing told of them. */
    private static final class Returns {
        final int[] town = new int[MOST_RETURNS];
        final int[] grain = new int[MOST_RETURNS];
        final int[] week = new int[MOST_RETURNS];
        final int[] quarters = new int[MOST_RETURNS];
        final int[] price = new int[MOST_RETURNS];
        final int[] sworn = new int[MOST_RETURNS];
        final int[] struck = new int[MOST_RETURNS];
        int size;

        boolean has(int k) {
            return k >= 0 && k < size;
        }

        int add(int ofTown, int ofGrain, int forWeek, int many, int pence, int swornAt) {
            int k = size;
            town[k] = ofTown;
            grain[k] = ofGrain;
            week[k] = forWeek;
            quarters[k] = many;
            price[k] = pence;
            sworn[k] = swornAt;
            struck[k] = NONE;
            size = k + 1;
            return k;
        }

        int struckOnes() {
            int found = 0;
            for (int k = 0; k < size; k++) {
                if (struck[k] != NONE) {
                    found++;
                }
            }
            return found;
        }

        boolean isKnown(int k, int t) {
            return sworn[k] <= t && (struck[k] == NONE || struck[k] > t);
        }

        /** WEEKLY or NONE, as if the return 'without' had never been. */
        int weeklyKnown(int ofGrain, int w, int t, int without) {
            // A week without returns takes the week before, so the latest week that has some counts.
            int latest = NONE;
            // Both sums stay far inside an int: 60 returns of 1000 quarters at 2000 pence.
            int pence = 0;
            int many = 0;
            for (int k = 0; k < size; k++) {
                if (grain[k] != ofGrain || week[k] > w || week[k] < latest
                        || k == without || !isKnown(k, t)) {
                    continue;
                }
                if (week[k] > latest) {
                    latest = week[k];
                    pence = 0;
                    many = 0;
                }
                pence += price[k] * quarters[k];
                many += quarters[k];
            }
            return many == 0 ? NONE : pence / many;
        }

        /** THE AVERAGE or NONE, as if the return 'without' had never been. */
        int averageKnown(int ofGrain, int t, int without) {
            int sum = 0;
            for (int w = t - WEEKS_AVERAGED; w < t; w++) {
                int ofWeek = weeklyKnown(ofGrain, w, t, without);
                if (ofWeek == NONE) {
                    return NONE;
                }
                sum += ofWeek;
            }
            return sum / WEEKS_AVERAGED;
        }

        int townsKnown(int w, int t) {
            int townBits = 0;
            for (int k = 0; k < size; k++) {
                if (week[k] == w && isKnown(k, t)) {
                    townBits |= 1 << town[k];
                }
            }
            return Integer.bitCount(townBits);
        }
    }

    /** All scales told, each with its steps in rising order. */
    private static final class Scales {
        final int[] grain = new int[MOST_SCALES];
        final int[] week = new int[MOST_SCALES];
        final int[] told = new int[MOST_SCALES];
        final int[] steps = new int[MOST_SCALES];
        final int[][] stepPrice = new int[MOST_SCALES][MOST_STEPS];
        final int[][] stepDuty = new int[MOST_SCALES][MOST_STEPS];
        int size;

        boolean has(int s) {
            return s >= 0 && s < size;
        }

        boolean isOf(int s, int ofGrain) {
            return has(s) && grain[s] == ofGrain;
        }

        int add(int ofGrain, int fromWeek, int toldAt) {
            int s = size;
            grain[s] = ofGrain;
            week[s] = fromWeek;
            told[s] = toldAt;
            size = s + 1;
            return s;
        }

        /** NONE, below every price, where there is no step yet. */
        int lastPrice(int s) {
            return steps[s] == 0 ? NONE : stepPrice[s][steps[s] - 1];
        }

        /** A scale at work takes no more steps, but in the week in which it was told. */
        boolean isSettled(int s, int t) {
            return week[s] <= t && told[s] != t;
        }

        int addStep(int s, int fromPrice, int duty) {
            stepPrice[s][steps[s]] = fromPrice;
            stepDuty[s][steps[s]] = duty;
            steps[s]++;
            return steps[s];
        }

        int inForce(int ofGrain, int t) {
            int found = NONE;
            for (int s = 0; s < size; s++) {
                boolean mayBe = grain[s] == ofGrain && steps[s] > 0 && week[s] <= t;
                if (mayBe && (found == NONE || week[s] >= week[found])) {
                    found = s;
                }
            }
            return found;
        }

        /** The duty by a scale (0 without one), at an average or NONE. */
        int dutyBy(int s, int average) {
            if (!has(s) || steps[s] == 0) {
                return 0;
            }
            // The first step needs no test: it holds below its own price too, and without an average.
            int duty = stepDuty[s][0];
            for (int i = 1; i < steps[s]; i++) {
                if (stepPrice[s][i] <= average) {
                    duty = stepDuty[s][i];
                }
            }
            return duty;
        }
    }

    /** Which grain hangs on which, and in what proportion; 'low' is 0 where one hangs on none. */
    private static final class Hangings {
        final int[] on = new int[GRAINS];
        final int[] up = new int[GRAINS];
        final int[] low = new int[GRAINS];

        boolean hangs(int grain) {
            return low[grain] > 0;
        }

        boolean bearsOne(int grain) {
            for (int g = 0; g < GRAINS; g++) {
                if (hangs(g) && on[g] == grain) {
                    return true;
                }
            }
            return false;
        }

        void put(int grain, int other, int times, int by) {
            on[grain] = other;
            up[grain] = times;
            low[grain] = by;
        }

        void take(int grain) {
            low[grain] = 0;
        }

        /** The grain whose scales rule the duty of this one. */
        int rulingOver(int grain) {
            return hangs(grain) ? on[grain] : grain;
        }

        int inProportion(int grain, int duty) {
            return hangs(grain) ? duty * up[grain] / low[grain] : duty;
        }
    }

    /** All cargoes, and where the quarters of each are. */
    private static final class Cargoes {
        final int[] grain = new int[MOST_CARGOES];
        final int[] inBond = new int[MOST_CARGOES];
        final int[] out = new int[MOST_CARGOES];
        final int[] shipped = new int[MOST_CARGOES];
        final int[] spoilt = new int[MOST_CARGOES];
        final int[] came = new int[MOST_CARGOES];
        int size;

        boolean has(int c) {
            return c >= 0 && c < size;
        }

        int add(int ofGrain, int quarters, int week) {
            int c = size;
            grain[c] = ofGrain;
            inBond[c] = quarters;
            came[c] = week;
            size = c + 1;
            return c;
        }

        /** What is lost of so many quarters as a week begins. */
        static int lossOf(int quarters, int thousandths) {
            return quarters * thousandths / 1000;
        }

        void spoilAll(int thousandths) {
            for (int c = 0; c < size; c++) {
                int lost = lossOf(inBond[c], thousandths);
                inBond[c] -= lost;
                spoilt[c] += lost;
            }
        }

        int leftAfter(int c, int weeks, int thousandths) {
            int left = inBond[c];
            for (int i = 0; i < weeks; i++) {
                left -= lossOf(left, thousandths);
            }
            return left;
        }
    }

    /** Each letting out, so that its duty can be told anew. */
    private static final class Lettings {
        final int[] grain = new int[MOST_LETTINGS];
        final int[] quarters = new int[MOST_LETTINGS];
        final int[] week = new int[MOST_LETTINGS];
        int size;

        void add(int ofGrain, int many, int atWeek) {
            grain[size] = ofGrain;
            quarters[size] = many;
            week[size] = atWeek;
            size++;
        }
    }
}
