import java.util.ArrayList;
import java.util.HashSet;
import java.util.List;
import java.util.Set;

/** The document's words taken one by one, slowly, to be held beside the class. */
final class Model {
    record Sale(int town, int grain, int week, int quarters, int price, int sworn) { }
    record Step(int price, int duty) { }
    record Scale(int grain, int week, int told, List<Step> steps) { }
    record Hanging(int other, int up, int low) { }
    record Letting(int grain, int week, int quarters) { }

    static final class Cargo {
        int grain;
        int came;
        int with;
        int out;
        int shipped;
        int spoilt;

        int inBond() {
            return with - out - shipped - spoilt;
        }
    }

    private final List<Sale> sales = new ArrayList<>();
    private final List<Integer> struck = new ArrayList<>();
    private final List<Scale> scales = new ArrayList<>();
    private final Hanging[] hangings = new Hanging[3];
    private final List<Cargo> cargoes = new ArrayList<>();
    private final List<Letting> lettings = new ArrayList<>();
    private int now;
    private int spoil;
    private long chest;

    /** The answer to a call of the method with this name. */
    long call(String method, int[] a) {
        switch (method) {
            case "weeks": return weeks(a[0]);
            case "sale": return sale(a[0], a[1], a[2], a[3], a[4]);
            case "strike": return strike(a[0]);
            case "sold": return sold(a[0], a[1]);
            case "weekly": return in(a[0], 0, 2) && in(a[1], 0, 200) && in(a[2], 0, 200)
                    ? weekly(a[0], a[1], a[2], sales) : -2;
            case "average": return in(a[0], 0, 2) && in(a[1], 0, 220) ? average(a[0], a[1], sales) : -2;
            case "towns": return towns(a[0], a[1]);
            case "scale": return scale(a[0], a[1]);
            case "step": return step(a[0], a[1], a[2]);
            case "hang": return hang(a[0], a[1], a[2], a[3]);
            case "unhang": return unhang(a[0]);
            case "force": return in(a[0], 0, 2) && in(a[1], 0, 220)
                    ? scales.indexOf(inForce(a[0], a[1])) : -2;
            case "duty": return in(a[0], 0, 2) && in(a[1], 0, 220) ? duty(a[0], a[1], sales, null) : -2;
            case "cargo": return cargo(a[0], a[1]);
            case "spoil": return spoil(a[0]);
            case "letOut": return letOut(a[0], a[1]);
            case "ship": return ship(a[0], a[1]);
            case "bond": return bond(a[0], a[1]);
            case "chest": return chest;
            case "worth": return worth(a[0]);
            case "other": return other(a[0]);
            case "gain": return gain(a[0], a[1], a[2]);
            case "best": return best(a[0], a[1], a[2]);
            case "count": return count(a[0]);
            default: throw new IllegalArgumentException(method);
        }
    }

    private static boolean in(int number, int least, int most) {
        return least <= number && number <= most;
    }

    private static boolean has(List<?> list, int k) {
        return in(k, 0, list.size() - 1);
    }

    int now() {
        return now;
    }

    private long weeks(int n) {
        if (!in(n, 1, 20) || now + n > 200) {
            return -2;
        }
        for (int i = 0; i < n; i++) {
            now++;
            for (Cargo cargo : cargoes) {
                cargo.spoilt += cargo.inBond() * spoil / 1000;
            }
        }
        return now;
    }

    private long sale(int town, int grain, int week, int quarters, int price) {
        if (!in(town, 0, 9) || !in(grain, 0, 2) || !in(week, 0, now)
                || !in(quarters, 1, 1000) || !in(price, 1, 2000)) {
            return -2;
        }
        if (sales.size() == 60) {
            return -4;
        }
        sales.add(new Sale(town, grain, week, quarters, price, now));
        struck.add(-1);
        return sales.size() - 1;
    }

    private long strike(int k) {
        if (!has(sales, k)) {
            return -2;
        }
        if (struck.get(k) >= 0) {
            return -3;
        }
        struck.set(k, now);
        return 1;
    }

    private long sold(int k, int what) {
        if (!has(sales, k) || !in(what, 0, 6)) {
            return -2;
        }
        Sale s = sales.get(k);
        return new int[] {s.town, s.grain, s.week, s.quarters, s.price, s.sworn, struck.get(k)}[what];
    }

    /** Of these sales (null stands where one had never been) those known at t for week w. */
    private List<Sale> known(int w, int t, List<Sale> of) {
        List<Sale> found = new ArrayList<>();
        for (int k = 0; k < of.size(); k++) {
            Sale s = of.get(k);
            boolean struckThen = struck.get(k) >= 0 && struck.get(k) <= t;
            if (s != null && s.week == w && s.sworn <= t && !struckThen) {
                found.add(s);
            }
        }
        return found;
    }

    private long weekly(int grain, int w, int t, List<Sale> of) {
        if (w < 0) {
            return -1;
        }
        long pence = 0;
        long quarters = 0;
        for (Sale s : known(w, t, of)) {
            if (s.grain == grain) {
                pence += (long) s.price * s.quarters;
                quarters += s.quarters;
            }
        }
        return quarters == 0 ? weekly(grain, w - 1, t, of) : pence / quarters;
    }

    private long average(int grain, int t, List<Sale> of) {
        long sum = 0;
        for (int back = 1; back <= 6; back++) {
            long one = weekly(grain, t - back, t, of);
            if (one == -1) {
                return -1;
            }
            sum += one;
        }
        return sum / 6;
    }

    private long towns(int w, int t) {
        if (!in(w, 0, 200) || !in(t, 0, 200)) {
            return -2;
        }
        Set<Integer> found = new HashSet<>();
        for (Sale s : known(w, t, sales)) {
            found.add(s.town);
        }
        return found.size();
    }

    private long scale(int grain, int week) {
        if (!in(grain, 0, 2) || !in(week, now, 200)) {
            return -2;
        }
        if (scales.size() == 8) {
            return -4;
        }
        scales.add(new Scale(grain, week, now, new ArrayList<>()));
        return scales.size() - 1;
    }

    private long step(int k, int price, int duty) {
        if (!has(scales, k) || !in(price, 0, 2000) || !in(duty, 0, 2000)) {
            return -2;
        }
        Scale s = scales.get(k);
        if (!s.steps.isEmpty() && s.steps.get(s.steps.size() - 1).price >= price) {
            return -2;
        }
        if (s.week <= now && s.told != now) {
            return -3;
        }
        if (s.steps.size() == 8) {
            return -4;
        }
        s.steps.add(new Step(price, duty));
        return s.steps.size();
    }

    private long hang(int grain, int other, int up, int low) {
        if (!in(grain, 0, 2) || !in(other, 0, 2) || grain == other || !in(up, 1, 100) || !in(low, 1, 100)) {
            return -2;
        }
        if (hangings[other] != null) {
            return -3;
        }
        for (Hanging h : hangings) {
            if (h != null && h.other == grain) {
                return -3;
            }
        }
        hangings[grain] = new Hanging(other, up, low);
        return 1;
    }

    private long unhang(int grain) {
        if (!in(grain, 0, 2)) {
            return -2;
        }
        if (hangings[grain] == null) {
            return -3;
        }
        hangings[grain] = null;
        return 1;
    }

    private Scale inForce(int grain, int t) {
        for (int week = t; week >= 0; week--) {
            for (int k = scales.size() - 1; k >= 0; k--) {
                Scale s = scales.get(k);
                if (s.grain == grain && s.week == week && !s.steps.isEmpty()) {
                    return s;
                }
            }
        }
        return null;
    }

    private long duty(int grain, int t, List<Sale> of, Scale always) {
        Hanging h = hangings[grain];
        if (h != null) {
            return duty(h.other, t, of, always) * h.up / h.low;
        }
        Scale s = always != null && always.grain == grain ? always : inForce(grain, t);
        if (s == null || s.steps.isEmpty()) {
            return 0;
        }
        long average = average(grain, t, of);
        for (int i = s.steps.size() - 1; i >= 0 && average != -1; i--) {
            if (s.steps.get(i).price <= average) {
                return s.steps.get(i).duty;
            }
        }
        return s.steps.get(0).duty;
    }

    private long cargo(int grain, int quarters) {
        if (!in(grain, 0, 2) || !in(quarters, 1, 10000)) {
            return -2;
        }
        if (cargoes.size() == 20) {
            return -4;
        }
        Cargo c = new Cargo();
        c.grain = grain;
        c.came = now;
        c.with = quarters;
        cargoes.add(c);
        return cargoes.size() - 1;
    }

    private long spoil(int thousandths) {
        if (!in(thousandths, 0, 100)) {
            return -2;
        }
        int before = spoil;
        spoil = thousandths;
        return before;
    }

    private long letOut(int k, int n) {
        if (!has(cargoes, k) || !in(n, 1, 10000)) {
            return -2;
        }
        Cargo c = cargoes.get(k);
        if (c.inBond() < n) {
            return -3;
        }
        if (lettings.size() == 100) {
            return -4;
        }
        long payment = n * duty(c.grain, now, sales, null);
        c.out += n;
        chest += payment;
        lettings.add(new Letting(c.grain, now, n));
        return payment;
    }

    private long ship(int k, int n) {
        if (!has(cargoes, k) || !in(n, 1, 10000)) {
            return -2;
        }
        Cargo c = cargoes.get(k);
        if (c.inBond() < n) {
            return -3;
        }
        c.shipped += n;
        return c.inBond();
    }

    private long bond(int k, int what) {
        if (!has(cargoes, k) || !in(what, 0, 5)) {
            return -2;
        }
        Cargo c = cargoes.get(k);
        return new int[] {c.grain, c.inBond(), c.out, c.shipped, c.spoilt, c.came}[what];
    }

    private long chestIf(List<Sale> of, Scale always) {
        long sum = 0;
        for (Letting l : lettings) {
            sum += l.quarters * duty(l.grain, l.week, of, always);
        }
        return sum;
    }

    private long worth(int k) {
        if (!has(sales, k)) {
            return Long.MIN_VALUE;
        }
        List<Sale> without = new ArrayList<>(sales);
        without.set(k, null);
        return chestIf(without, null) - chest;
    }

    private long other(int k) {
        return has(scales, k) ? chestIf(sales, scales.get(k)) : -2;
    }

    private long gain(int k, int t, int price) {
        if (!has(cargoes, k) || !in(t, now, now + 20) || !in(price, 0, 2000)) {
            return Long.MIN_VALUE;
        }
        Cargo c = cargoes.get(k);
        long left = c.inBond();
        for (int week = now + 1; week <= t; week++) {
            left -= left * spoil / 1000;
        }
        return left * (price - duty(c.grain, t, sales, null));
    }

    private long best(int k, int n, int price) {
        if (!has(cargoes, k) || !in(n, 0, 20) || !in(price, 0, 2000)) {
            return -2;
        }
        int found = now + n;
        for (int t = now + n; t >= now; t--) {
            if (gain(k, t, price) >= gain(k, found, price)) {
                found = t;
            }
        }
        return found;
    }

    private long count(int what) {
        if (!in(what, 0, 5)) {
            return -2;
        }
        int struckOnes = 0;
        for (int at : struck) {
            struckOnes += at >= 0 ? 1 : 0;
        }
        return new int[] {now, sales.size(), struckOnes, scales.size(), cargoes.size(), lettings.size()}[what];
    }
}
