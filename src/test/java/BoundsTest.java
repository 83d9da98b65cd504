import java.util.function.Consumer;

/** All promises: of each number of each call the last that is taken and the first that is BAD. */
public final class BoundsTest {
    private static final long LEAST_LONG = Long.MIN_VALUE;
    private static final Check CHECK = new Check();

    public static void main(String[] args) {
        promise2Weeks();
        promise3Sale();
        promise4Strike();
        promise5Sold();
        promise6Weekly();
        promise7Average();
        promise8Towns();
        promise9Scale();
        promise10Step();
        promise11Hang();
        promise12Unhang();
        promise13Force();
        promise14Duty();
        promise15Cargo();
        promise16Spoil();
        promise17LetOut();
        promise18Ship();
        promise19Bond();
        promise21Worth();
        promise22Other();
        promise23Gain();
        promise23GainOfWeek();
        promise24Best();
        promise25Count();
        CHECK.end();
    }

    private static Bounds number(String call, Consumer<CornLaws> before, Bounds.With with) {
        return new Bounds(CHECK, call, before, with, CornLaws.BAD);
    }

    private static Bounds longNumber(String call, Consumer<CornLaws> before, Bounds.With with) {
        return new Bounds(CHECK, call, before, with, LEAST_LONG);
    }

    /** At week 4 something of each kind: of returns 3, of scales 2, of cargoes 2, of lettings out 1. */
    private static void some(CornLaws x) {
        x.scale(0, 0);
        x.step(0, 0, 20);
        x.step(0, 50, 3);
        x.sale(7, 0, 0, 10, 40);
        x.sale(8, 1, 0, 20, 50);
        x.weeks(4);
        x.sale(9, 2, 3, 30, 60);
        x.strike(1);
        x.scale(1, 4);
        x.step(1, 10, 30);
        x.hang(2, 0, 1, 2);
        x.cargo(0, 100);
        x.cargo(2, 10000);
        x.spoil(50);
        x.letOut(0, 10);
    }

    private static void promise2Weeks() {
        number("weeks at 0:", x -> { }, CornLaws::weeks).from(1, 1).to(20, 20);
        number("weeks at 4:", BoundsTest::some, CornLaws::weeks).from(1, 5).to(20, 24);
        number("weeks at 180:", x -> Weeks.goTo(x, 180), CornLaws::weeks).from(1, 181).to(20, 200);
        number("weeks at 181:", x -> Weeks.goTo(x, 181), CornLaws::weeks).from(1, 182).to(19, 200);
        number("weeks at 199:", x -> Weeks.goTo(x, 199), CornLaws::weeks).from(1, 200).to(1, 200);
        number("weeks at 200:", x -> Weeks.goTo(x, 200), CornLaws::weeks).refused(0).refused(1).refused(20);
    }

    private static void promise3Sale() {
        number("sale: town", BoundsTest::some, (x, n) -> x.sale(n, 0, 0, 1, 1)).from(0, 3).to(9, 3);
        number("sale: grain", BoundsTest::some, (x, n) -> x.sale(0, n, 0, 1, 1)).from(0, 3).to(2, 3);
        number("sale: week", BoundsTest::some, (x, n) -> x.sale(0, 0, n, 1, 1)).from(0, 3).to(4, 3);
        number("sale: quarters", BoundsTest::some, (x, n) -> x.sale(0, 0, 0, n, 1)).from(1, 3).to(1000, 3);
        number("sale: price", BoundsTest::some, (x, n) -> x.sale(0, 0, 0, 1, n)).from(1, 3).to(2000, 3);
        number("sale at 0: week", x -> { }, (x, n) -> x.sale(0, 0, n, 1, 1)).from(0, 0).to(0, 0);
        number("sale at 200: week", x -> Weeks.goTo(x, 200), (x, n) -> x.sale(0, 0, n, 1, 1)).from(0, 0).to(200, 0);
    }

    private static void sixtyReturns(CornLaws x) {
        for (int k = 0; k < 60; k++) {
            x.sale(k / 6, 0, 0, 1 + k, 1);
        }
    }

    private static void promise4Strike() {
        number("strike of none:", x -> { }, CornLaws::strike).refused(-1).refused(0).refused(1);
        number("strike of three:", BoundsTest::some, CornLaws::strike).from(0, 1).to(2, 1);
        number("strike of 60:", BoundsTest::sixtyReturns, CornLaws::strike).from(0, 1).to(59, 1);
    }

    private static void promise5Sold() {
        number("sold of none:", x -> { }, (x, n) -> x.sold(n, 0)).refused(-1).refused(0).refused(1);
        number("sold of three:", BoundsTest::some, (x, n) -> x.sold(n, 0)).from(0, 7).to(2, 9);
        number("sold of 60:", BoundsTest::sixtyReturns, (x, n) -> x.sold(n, 3)).from(0, 1).to(59, 60);
        number("sold: what", BoundsTest::some, (x, n) -> x.sold(1, n)).from(0, 8).to(6, 4);
        number("sold: what, not struck", BoundsTest::some, (x, n) -> x.sold(2, n)).from(0, 9).to(6, -1);
    }

    private static void promise6Weekly() {
        number("weekly: grain", BoundsTest::some, (x, n) -> x.weekly(n, 3, 4)).from(0, 40).to(2, 60);
        number("weekly: w", BoundsTest::some, (x, n) -> x.weekly(0, n, 0)).from(0, 40).to(200, 40);
        number("weekly: t", BoundsTest::some, (x, n) -> x.weekly(1, 0, n)).from(0, 50).to(200, -1);
        number("weekly of none: w", x -> { }, (x, n) -> x.weekly(0, n, 200)).from(0, -1).to(200, -1);
        number("weekly of none: t", x -> { }, (x, n) -> x.weekly(0, 200, n)).from(0, -1).to(200, -1);
    }

    private static void promise7Average() {
        number("average: grain", BoundsTest::some, (x, n) -> x.average(n, 9)).from(0, 40).to(2, 60);
        number("average: t", BoundsTest::some, (x, n) -> x.average(0, n)).from(0, -1).to(220, 40);
        number("average of none: t", x -> { }, (x, n) -> x.average(0, n)).from(0, -1).to(220, -1);
    }

    private static void promise8Towns() {
        number("towns: w", BoundsTest::some, (x, n) -> x.towns(n, 200)).from(0, 1).to(200, 0);
        number("towns: t", BoundsTest::some, (x, n) -> x.towns(0, n)).from(0, 2).to(200, 1);
        number("towns of none: w", x -> { }, (x, n) -> x.towns(n, 0)).from(0, 0).to(200, 0);
        Consumer<CornLaws> late = x -> {
            Weeks.goTo(x, 200);
            x.sale(0, 0, 200, 1, 1);
        };
        number("towns at 200: w", late, (x, n) -> x.towns(n, 200)).from(0, 0).to(200, 1);
        number("towns at 200: t", late, (x, n) -> x.towns(200, n)).from(0, 0).to(200, 1);
    }

    private static void promise9Scale() {
        number("scale: grain", BoundsTest::some, (x, n) -> x.scale(n, 4)).from(0, 2).to(2, 2);
        number("scale at 0: week", x -> { }, (x, n) -> x.scale(0, n)).from(0, 0).to(200, 0);
        number("scale at 4: week", BoundsTest::some, (x, n) -> x.scale(0, n)).from(4, 2).to(200, 2);
        number("scale at 200: week", x -> Weeks.goTo(x, 200), (x, n) -> x.scale(0, n)).from(200, 0).to(200, 0);
    }

    private static void eightScales(CornLaws x) {
        for (int s = 0; s < 8; s++) {
            x.scale(s % 3, s);
            x.step(s, 10 + s, 100 - s);
        }
    }

    private static void promise10Step() {
        Consumer<CornLaws> without = x -> x.scale(0, 0);
        Consumer<CornLaws> to2000 = x -> {
            x.scale(0, 0);
            x.step(0, 2000, 1);
        };
        number("step of no scale:", x -> { }, (x, n) -> x.step(n, 0, 0)).refused(-1).refused(0).refused(1);
        number("step: scale", without, (x, n) -> x.step(n, 0, 0)).from(0, 1).to(0, 1);
        number("step of eight: scale", BoundsTest::eightScales, (x, n) -> x.step(n, 100, 0)).from(0, 2).to(7, 2);
        number("step: first price", without, (x, n) -> x.step(0, n, 0)).from(0, 1).to(2000, 1);
        number("step: price", BoundsTest::some, (x, n) -> x.step(1, n, 0)).from(11, 2).to(2000, 2);
        number("step: price above the last", to2000, (x, n) -> x.step(0, n, 0)).refused(2000).refused(2001);
        number("step: duty", without, (x, n) -> x.step(0, 0, n)).from(0, 1).to(2000, 1);
        number("step: duty", BoundsTest::some, (x, n) -> x.step(1, 11, n)).from(0, 2).to(2000, 2);
    }

    private static void promise11Hang() {
        // The grain itself is BAD, too, so it stands at one end of each row.
        number("hang: grain", x -> { }, (x, n) -> x.hang(n, 0, 1, 1)).refused(-1).from(1, 1).to(2, 1);
        number("hang: grain", x -> { }, (x, n) -> x.hang(n, 2, 1, 1)).from(0, 1).to(1, 1).refused(3);
        number("hang: other", x -> { }, (x, n) -> x.hang(0, n, 1, 1)).refused(-1).from(1, 1).to(2, 1);
        number("hang: other", x -> { }, (x, n) -> x.hang(2, n, 1, 1)).from(0, 1).to(1, 1).refused(3);
        number("hang: on itself", x -> { }, (x, n) -> x.hang(n, n, 1, 1)).refused(0).refused(1).refused(2);
        number("hang: up", x -> { }, (x, n) -> x.hang(0, 1, n, 1)).from(1, 1).to(100, 1);
        number("hang: low", x -> { }, (x, n) -> x.hang(0, 1, 1, n)).from(1, 1).to(100, 1);
        number("hang anew: up", BoundsTest::some, (x, n) -> x.hang(2, 0, n, 1)).from(1, 1).to(100, 1);
        number("hang anew: low", BoundsTest::some, (x, n) -> x.hang(2, 0, 1, n)).from(1, 1).to(100, 1);
    }

    private static void promise12Unhang() {
        Consumer<CornLaws> outerTwo = x -> {
            x.hang(0, 1, 1, 1);
            x.hang(2, 1, 1, 1);
        };
        number("unhang: grain", outerTwo, CornLaws::unhang).from(0, 1).to(2, 1);
    }

    private static void promise13Force() {
        number("force: grain", BoundsTest::some, (x, n) -> x.force(n, 4)).from(0, 0).to(2, -1);
        number("force: t", BoundsTest::some, (x, n) -> x.force(0, n)).from(0, 0).to(220, 0);
        number("force of none: t", x -> { }, (x, n) -> x.force(0, n)).from(0, -1).to(220, -1);
    }

    private static void promise14Duty() {
        number("duty: grain", BoundsTest::some, (x, n) -> x.duty(n, 4)).from(0, 20).to(2, 10);
        number("duty: t", BoundsTest::some, (x, n) -> x.duty(1, n)).from(0, 0).to(220, 30);
        number("duty of none: t", x -> { }, (x, n) -> x.duty(0, n)).from(0, 0).to(220, 0);
    }

    private static void promise15Cargo() {
        number("cargo: grain", BoundsTest::some, (x, n) -> x.cargo(n, 1)).from(0, 2).to(2, 2);
        number("cargo: quarters", BoundsTest::some, (x, n) -> x.cargo(0, n)).from(1, 2).to(10000, 2);
    }

    private static void promise16Spoil() {
        number("spoil:", x -> { }, CornLaws::spoil).from(0, 0).to(100, 0);
        number("spoil anew:", BoundsTest::some, CornLaws::spoil).from(0, 50).to(100, 50);
    }

    private static void twentyCargoes(CornLaws x) {
        for (int c = 0; c < 20; c++) {
            x.cargo(c % 3, 10 + c);
        }
    }

    private static void promise17LetOut() {
        number("letOut of none:", x -> { }, (x, n) -> x.letOut(n, 1)).refused(-1).refused(0).refused(1);
        number("letOut: cargo", BoundsTest::some, (x, n) -> x.letOut(n, 1)).from(0, 20).to(1, 10);
        number("letOut of 20: cargo", BoundsTest::twentyCargoes, (x, n) -> x.letOut(n, 1)).from(0, 0).to(19, 0);
        number("letOut: n", BoundsTest::some, (x, n) -> x.letOut(1, n)).from(1, 10).to(10000, 100000);
    }

    private static void promise18Ship() {
        number("ship of none:", x -> { }, (x, n) -> x.ship(n, 1)).refused(-1).refused(0).refused(1);
        number("ship: cargo", BoundsTest::some, (x, n) -> x.ship(n, 1)).from(0, 89).to(1, 9999);
        number("ship of 20: cargo", BoundsTest::twentyCargoes, (x, n) -> x.ship(n, 1)).from(0, 9).to(19, 28);
        number("ship: n", BoundsTest::some, (x, n) -> x.ship(1, n)).from(1, 9999).to(10000, 0);
    }

    private static void promise19Bond() {
        number("bond of none:", x -> { }, (x, n) -> x.bond(n, 0)).refused(-1).refused(0).refused(1);
        number("bond: cargo", BoundsTest::some, (x, n) -> x.bond(n, 0)).from(0, 0).to(1, 2);
        number("bond of 20: cargo", BoundsTest::twentyCargoes, (x, n) -> x.bond(n, 1)).from(0, 10).to(19, 29);
        number("bond: what", BoundsTest::some, (x, n) -> x.bond(1, n)).from(0, 2).to(5, 4);
    }

    private static void promise21Worth() {
        longNumber("worth of none:", x -> { }, CornLaws::worth).refused(-1).refused(0).refused(1);
        longNumber("worth of three:", BoundsTest::some, CornLaws::worth).from(0, 0).to(2, 0);
        longNumber("worth of 60:", BoundsTest::sixtyReturns, CornLaws::worth).from(0, 0).to(59, 0);
    }

    private static void promise22Other() {
        number("other of none:", x -> { }, CornLaws::other).refused(-1).refused(0).refused(1);
        number("other of two:", BoundsTest::some, CornLaws::other).from(0, 200).to(1, 200);
        number("other of eight:", BoundsTest::eightScales, CornLaws::other).from(0, 0).to(7, 0);
    }

    private static void promise23Gain() {
        longNumber("gain of none:", x -> { }, (x, n) -> x.gain(n, 0, 0)).refused(-1).refused(0).refused(1);
        longNumber("gain: cargo", BoundsTest::some, (x, n) -> x.gain(n, 4, 30)).from(0, 900).to(1, 200000);
        longNumber("gain of 20: cargo", BoundsTest::twentyCargoes, (x, n) -> x.gain(n, 0, 1)).from(0, 10).to(19, 29);
        longNumber("gain: price", BoundsTest::some, (x, n) -> x.gain(0, 4, n)).from(0, -1800).to(2000, 178200);
    }

    private static void promise23GainOfWeek() {
        Consumer<CornLaws> atWeek200 = x -> {
            Weeks.goTo(x, 200);
            x.cargo(0, 7);
        };
        Consumer<CornLaws> atWeek0 = x -> x.cargo(0, 7);
        // 90, then each week less a twentieth, cut: 86, 82, 78, 75, 72, 69, 66, 63, 60, 57, then 55 .. 39 by two, 38
        longNumber("gain at 4: t", BoundsTest::some, (x, n) -> x.gain(0, n, 21)).from(4, 90).to(24, 38);
        longNumber("gain at 0: t", atWeek0, (x, n) -> x.gain(0, n, 1)).from(0, 7).to(20, 7);
        longNumber("gain at 200: t", atWeek200, (x, n) -> x.gain(0, n, 1)).from(200, 7).to(220, 7);
    }

    private static void promise24Best() {
        Consumer<CornLaws> atWeek200 = x -> {
            Weeks.goTo(x, 200);
            x.cargo(0, 7);
        };
        number("best of none:", x -> { }, (x, n) -> x.best(n, 0, 0)).refused(-1).refused(0).refused(1);
        number("best: cargo", BoundsTest::some, (x, n) -> x.best(n, 20, 0)).from(0, 24).to(1, 24);
        number("best of 20: cargo", BoundsTest::twentyCargoes, (x, n) -> x.best(n, 20, 0)).from(0, 0).to(19, 0);
        number("best: n", BoundsTest::some, (x, n) -> x.best(0, n, 0)).from(0, 4).to(20, 24);
        number("best: price", BoundsTest::some, (x, n) -> x.best(0, 20, n)).from(0, 24).to(2000, 4);
        number("best at 200: n", atWeek200, (x, n) -> x.best(0, n, 0)).from(0, 200).to(20, 200);
    }

    private static void promise25Count() {
        number("count:", x -> { }, CornLaws::count).from(0, 0).to(5, 0);
        number("count of some:", BoundsTest::some, CornLaws::count).from(0, 4).to(5, 1);
    }
}
