import java.util.function.Consumer;
import java.util.function.ToLongFunction;

/**
 * All promises that refuse: each NOT and each FULL, beside the last call that still fits; which comes
 * first where several fit; and that nothing changes then.
 */
public final class RefusalsTest {
    private static final int BAD = CornLaws.BAD;
    private static final int NOT = CornLaws.NOT;
    private static final int FULL = CornLaws.FULL;
    private static final Check CHECK = new Check();

    public static void main(String[] args) {
        promise2Weeks();
        promise3SaleFull();
        promise3SaleBadAheadOfFull();
        promise4StrikeNot();
        promise9ScaleFull();
        promise10StepNot();
        promise10StepFull();
        promise10StepOrder();
        promise11HangNot();
        promise11HangOfAnyTwo();
        promise11HangBadAheadOfNot();
        promise12UnhangNot();
        promise15CargoFull();
        promise17LetOutNot();
        promise17LetOutFull();
        promise17LetOutOrder();
        promise18ShipNot();
        CHECK.end();
    }

    private static void refused(String call, Consumer<CornLaws> before, ToLongFunction<CornLaws> asked, long due) {
        State.refused(CHECK, call, before, asked, due);
    }

    private static void taken(String call, Consumer<CornLaws> before, ToLongFunction<CornLaws> asked, long due) {
        CHECK.due(call, asked.applyAsLong(State.made(before)), due);
    }

    private static void promise2Weeks() {
        Consumer<CornLaws> spoiling = x -> {
            x.cargo(0, 1000);
            x.spoil(100);
            for (int i = 0; i < 9; i++) {
                x.weeks(20);
            }
            x.weeks(19);
        };
        refused("weeks behind 200 begin none on the way", spoiling, x -> x.weeks(2), BAD);
        refused("weeks far behind 200", spoiling, x -> x.weeks(20), BAD);
    }

    private static Consumer<CornLaws> returns(int many) {
        return x -> {
            for (int k = 0; k < many; k++) {
                x.sale(k % 10, k % 3, 0, 1 + k, 100 + k);
            }
        };
    }

    private static void promise3SaleFull() {
        taken("sale 59", returns(59), x -> x.sale(0, 0, 0, 1000, 2000), 59);
        refused("sale 60", returns(60), x -> x.sale(0, 0, 0, 1000, 2000), FULL);
        refused("sale 60, of a grain and town without", returns(60), x -> x.sale(9, 2, 0, 1, 1), FULL);
        refused("sale 60, all others struck", returns(60).andThen(x -> {
            for (int k = 0; k < 60; k++) {
                x.strike(k);
            }
        }), x -> x.sale(0, 0, 0, 1, 1), FULL);
        refused("sale 60, weeks later", returns(60).andThen(x -> x.weeks(20)), x -> x.sale(0, 0, 20, 1, 1), FULL);
    }

    private static void promise3SaleBadAheadOfFull() {
        Consumer<CornLaws> full = returns(60);
        refused("town -1 ahead of FULL", full, x -> x.sale(-1, 0, 0, 1, 1), BAD);
        refused("town 10 ahead of FULL", full, x -> x.sale(10, 0, 0, 1, 1), BAD);
        refused("grain -1 ahead of FULL", full, x -> x.sale(0, -1, 0, 1, 1), BAD);
        refused("grain 3 ahead of FULL", full, x -> x.sale(0, 3, 0, 1, 1), BAD);
        refused("week -1 ahead of FULL", full, x -> x.sale(0, 0, -1, 1, 1), BAD);
        refused("week 1 at 0 ahead of FULL", full, x -> x.sale(0, 0, 1, 1, 1), BAD);
        refused("quarters 0 ahead of FULL", full, x -> x.sale(0, 0, 0, 0, 1), BAD);
        refused("quarters 1001 ahead of FULL", full, x -> x.sale(0, 0, 0, 1001, 1), BAD);
        refused("price 0 ahead of FULL", full, x -> x.sale(0, 0, 0, 1, 0), BAD);
        refused("price 2001 ahead of FULL", full, x -> x.sale(0, 0, 0, 1, 2001), BAD);
    }

    private static void promise4StrikeNot() {
        taken("strike at once", returns(1), x -> x.strike(0), 1);
        taken("strike later", returns(1).andThen(x -> x.weeks(9)), x -> x.strike(0), 1);
        refused("strike again at once", returns(2).andThen(x -> x.strike(0)), x -> x.strike(0), NOT);
        refused("strike again later", returns(2).andThen(x -> {
            x.strike(0);
            x.weeks(3);
        }), x -> x.strike(0), NOT);
        taken("strike another", returns(2).andThen(x -> x.strike(0)), x -> x.strike(1), 1);
    }

    private static Consumer<CornLaws> scales(int many) {
        return x -> {
            for (int s = 0; s < many; s++) {
                x.scale(s % 3, s);
            }
        };
    }

    private static void promise9ScaleFull() {
        taken("scale 7", scales(7), x -> x.scale(2, 200), 7);
        refused("scale 8", scales(8), x -> x.scale(2, 200), FULL);
        refused("scale 8, weeks later", scales(8).andThen(x -> x.weeks(20)), x -> x.scale(0, 20), FULL);
        refused("grain -1 ahead of FULL", scales(8), x -> x.scale(-1, 0), BAD);
        refused("grain 3 ahead of FULL", scales(8), x -> x.scale(3, 0), BAD);
        refused("week -1 ahead of FULL", scales(8), x -> x.scale(0, -1), BAD);
        refused("week 201 ahead of FULL", scales(8), x -> x.scale(0, 201), BAD);
        refused("a week that is over ahead of FULL", scales(8).andThen(x -> x.weeks(2)), x -> x.scale(0, 1), BAD);
    }

    /** A scale of grain 0, told at week 2, in force from 'week' on, with so many steps from 10, 20 .. on. */
    private static Consumer<CornLaws> scaleFrom(int week, int steps) {
        return x -> {
            x.weeks(2);
            x.scale(0, week);
            for (int i = 1; i <= steps; i++) {
                x.step(0, 10 * i, 90 - 10 * i);
            }
        };
    }

    private static Consumer<CornLaws> later(int weeks, Consumer<CornLaws> before) {
        return before.andThen(x -> x.weeks(weeks));
    }

    private static void promise10StepNot() {
        taken("its week is that when it was told", scaleFrom(2, 1), x -> x.step(0, 20, 5), 2);
        taken("its week is to come", scaleFrom(3, 1), x -> x.step(0, 20, 5), 2);
        refused("its week is over", later(1, scaleFrom(2, 1)), x -> x.step(0, 20, 5), NOT);
        refused("its week is THE WEEK", later(1, scaleFrom(3, 1)), x -> x.step(0, 20, 5), NOT);
        taken("its week is the next one", later(1, scaleFrom(4, 1)), x -> x.step(0, 20, 5), 2);
        refused("its week is THE WEEK, weeks on", later(20, scaleFrom(22, 1)), x -> x.step(0, 20, 5), NOT);
        taken("its week is the next one, weeks on", later(20, scaleFrom(23, 1)), x -> x.step(0, 20, 5), 2);
        refused("its week is over, without steps", later(1, scaleFrom(2, 0)), x -> x.step(0, 20, 5), NOT);
        refused("its week is THE WEEK, without steps", later(1, scaleFrom(3, 0)), x -> x.step(0, 20, 5), NOT);
        taken("its week is the next one, without steps", later(1, scaleFrom(4, 0)), x -> x.step(0, 20, 5), 1);
    }

    private static void promise10StepFull() {
        taken("the eighth", scaleFrom(2, 7), x -> x.step(0, 80, 0), 8);
        refused("the ninth", scaleFrom(2, 8), x -> x.step(0, 81, 0), FULL);
        refused("the ninth, at the highest price", scaleFrom(9, 8), x -> x.step(0, 2000, 2000), FULL);
        refused("the ninth, weeks later", later(6, scaleFrom(9, 8)), x -> x.step(0, 81, 0), FULL);
    }

    private static void promise10StepOrder() {
        Consumer<CornLaws> full = scaleFrom(2, 8);
        Consumer<CornLaws> over = later(1, scaleFrom(2, 3));
        Consumer<CornLaws> fullAndOver = later(1, full);
        refused("NOT ahead of FULL", fullAndOver, x -> x.step(0, 90, 0), NOT);
        refused("NOT ahead of FULL in its week", later(1, scaleFrom(3, 8)), x -> x.step(0, 90, 0), NOT);
        stepBadAheadOf("FULL", full, 80);
        stepBadAheadOf("NOT", over, 30);
        stepBadAheadOf("NOT and FULL", fullAndOver, 80);
    }

    private static void stepBadAheadOf(String other, Consumer<CornLaws> before, int lastPrice) {
        refused("a price as the last ahead of " + other, before, x -> x.step(0, lastPrice, 0), BAD);
        refused("price 0 ahead of " + other, before, x -> x.step(0, 0, 0), BAD);
        refused("price -1 ahead of " + other, before, x -> x.step(0, -1, 0), BAD);
        refused("price 2001 ahead of " + other, before, x -> x.step(0, 2001, 0), BAD);
        refused("duty -1 ahead of " + other, before, x -> x.step(0, 90, -1), BAD);
        refused("duty 2001 ahead of " + other, before, x -> x.step(0, 90, 2001), BAD);
        refused("no such scale beside " + other, before, x -> x.step(1, 90, 0), BAD);
    }

    /** Grain 1 hangs on grain 0, which has a scale with a duty of 12. */
    private static void oneOnNought(CornLaws x) {
        x.scale(0, 0);
        x.step(0, 0, 12);
        x.hang(1, 0, 1, 3);
    }

    private static void promise11HangNot() {
        Consumer<CornLaws> twoOnNought = x -> {
            oneOnNought(x);
            x.hang(2, 0, 1, 4);
        };
        refused("the other hangs", RefusalsTest::oneOnNought, x -> x.hang(2, 1, 5, 5), NOT);
        refused("one hangs on the first", RefusalsTest::oneOnNought, x -> x.hang(0, 2, 5, 5), NOT);
        refused("both: each on the other", RefusalsTest::oneOnNought, x -> x.hang(0, 1, 5, 5), NOT);
        taken("on one that bears another", RefusalsTest::oneOnNought, x -> x.hang(2, 0, 5, 5), 1);
        taken("anew, on a third", RefusalsTest::oneOnNought, x -> x.hang(1, 2, 5, 5), 1);
        taken("anew, on the same", RefusalsTest::oneOnNought, x -> x.hang(1, 0, 5, 5), 1);
        refused("anew, on one that hangs", twoOnNought, x -> x.hang(1, 2, 5, 5), NOT);
        refused("two hang on the first", twoOnNought, x -> x.hang(0, 2, 5, 5), NOT);
        refused("one of two is off", twoOnNought.andThen(x -> x.unhang(1)), x -> x.hang(0, 1, 5, 5), NOT);
        taken("both are off", twoOnNought.andThen(x -> x.unhang(1)).andThen(x -> x.unhang(2)),
            x -> x.hang(0, 1, 5, 5), 1);
        taken("the other is off", RefusalsTest::oneOnNought, x -> x.unhang(1) * 10 + x.hang(2, 1, 5, 5), 11);
    }

    /** Whichever grain hangs on whichever: what may hang beside it, and what may not. */
    private static void promise11HangOfAnyTwo() {
        for (int first = 0; first < 3; first++) {
            for (int step = 1; step <= 2; step++) {
                int hanging = first;
                int bearing = (first + step) % 3;
                int third = 3 - hanging - bearing;
                Consumer<CornLaws> before = x -> x.hang(hanging, bearing, 1, 1);
                String pair = hanging + " on " + bearing + ": ";
                refused(pair + "each on the other", before, x -> x.hang(bearing, hanging, 1, 1), NOT);
                refused(pair + "the bearing one on a third", before, x -> x.hang(bearing, third, 1, 1), NOT);
                refused(pair + "a third on the hanging one", before, x -> x.hang(third, hanging, 1, 1), NOT);
                taken(pair + "a third on the bearing one", before, x -> x.hang(third, bearing, 1, 1), 1);
                taken(pair + "the hanging one on a third", before, x -> x.hang(hanging, third, 1, 1), 1);
                refused(pair + "a third hangs on none", before, x -> x.unhang(third), NOT);
                refused(pair + "the bearing one hangs on none", before, x -> x.unhang(bearing), NOT);
            }
        }
    }

    private static void promise11HangBadAheadOfNot() {
        refused("up 0, the other hangs", RefusalsTest::oneOnNought, x -> x.hang(2, 1, 0, 1), BAD);
        refused("up 101, the other hangs", RefusalsTest::oneOnNought, x -> x.hang(2, 1, 101, 1), BAD);
        refused("low 0, one hangs on the first", RefusalsTest::oneOnNought, x -> x.hang(0, 2, 1, 0), BAD);
        refused("low 101, one hangs on the first", RefusalsTest::oneOnNought, x -> x.hang(0, 2, 1, 101), BAD);
        refused("no such first, the other hangs", RefusalsTest::oneOnNought, x -> x.hang(3, 1, 1, 1), BAD);
        refused("no such first, the other hangs", RefusalsTest::oneOnNought, x -> x.hang(-1, 1, 1, 1), BAD);
        refused("no such other, one hangs on the first", RefusalsTest::oneOnNought, x -> x.hang(0, 3, 1, 1), BAD);
        refused("no such other, one hangs on the first", RefusalsTest::oneOnNought, x -> x.hang(0, -1, 1, 1), BAD);
        refused("on itself, which hangs", RefusalsTest::oneOnNought, x -> x.hang(1, 1, 1, 1), BAD);
        refused("on itself, on which one hangs", RefusalsTest::oneOnNought, x -> x.hang(0, 0, 1, 1), BAD);
    }

    private static void promise12UnhangNot() {
        refused("none hangs", x -> { }, x -> x.unhang(0), NOT);
        refused("one hangs on it", RefusalsTest::oneOnNought, x -> x.unhang(0), NOT);
        refused("another hangs", RefusalsTest::oneOnNought, x -> x.unhang(2), NOT);
        taken("it hangs", RefusalsTest::oneOnNought, x -> x.unhang(1), 1);
        refused("it hung", x -> {
            oneOnNought(x);
            x.unhang(1);
        }, x -> x.unhang(1), NOT);
    }

    private static Consumer<CornLaws> cargoes(int many) {
        return x -> {
            for (int c = 0; c < many; c++) {
                x.cargo(c % 3, 10);
            }
        };
    }

    private static void promise15CargoFull() {
        taken("cargo 19", cargoes(19), x -> x.cargo(2, 10000), 19);
        refused("cargo 20", cargoes(20), x -> x.cargo(2, 10000), FULL);
        refused("cargo 20, all others shipped", cargoes(20).andThen(x -> {
            for (int c = 0; c < 20; c++) {
                x.ship(c, 10);
            }
        }), x -> x.cargo(0, 1), FULL);
        refused("grain -1 ahead of FULL", cargoes(20), x -> x.cargo(-1, 1), BAD);
        refused("grain 3 ahead of FULL", cargoes(20), x -> x.cargo(3, 1), BAD);
        refused("quarters 0 ahead of FULL", cargoes(20), x -> x.cargo(0, 0), BAD);
        refused("quarters 10001 ahead of FULL", cargoes(20), x -> x.cargo(0, 10001), BAD);
    }

    /** Two cargoes of grain 0, of 'quarters' and of one, and a duty of 12; so many are let out, one by one. */
    private static Consumer<CornLaws> lettings(int quarters, int many) {
        return x -> {
            oneOnNought(x);
            x.cargo(0, quarters);
            x.cargo(0, 1);
            for (int i = 0; i < many; i++) {
                x.letOut(0, 1);
            }
        };
    }

    private static void promise17LetOutNot() {
        taken("all that is in bond", lettings(50, 0), x -> x.letOut(0, 50), 600);
        refused("one more", lettings(50, 0), x -> x.letOut(0, 51), NOT);
        refused("the most", lettings(9999, 0), x -> x.letOut(0, 10000), NOT);
        taken("the rest", lettings(50, 20), x -> x.letOut(0, 30), 360);
        refused("more than the rest", lettings(50, 20), x -> x.letOut(0, 31), NOT);
        refused("when all is out", lettings(20, 20), x -> x.letOut(0, 1), NOT);
        refused("when all is shipped", lettings(50, 0).andThen(x -> x.ship(0, 50)), x -> x.letOut(0, 1), NOT);
        Consumer<CornLaws> spoilt = lettings(50, 0).andThen(x -> {
            x.spoil(100);
            x.weeks(1);
        });
        taken("what is not spoilt", spoilt, x -> x.letOut(0, 45), 540);
        refused("what is spoilt", spoilt, x -> x.letOut(0, 46), NOT);
    }

    private static void promise17LetOutFull() {
        taken("letting 99", lettings(200, 99), x -> x.letOut(0, 1), 12);
        refused("letting 100", lettings(200, 100), x -> x.letOut(0, 1), FULL);
        refused("letting 100, of another cargo", lettings(200, 100), x -> x.letOut(1, 1), FULL);
        refused("letting 100, of all that is left", lettings(200, 100), x -> x.letOut(0, 100), FULL);
        refused("letting 100, weeks later", later(20, lettings(200, 100)), x -> x.letOut(0, 1), FULL);
        taken("ship has no such bound", lettings(200, 100), x -> x.ship(0, 100), 0);
    }

    private static void promise17LetOutOrder() {
        refused("NOT ahead of FULL", lettings(200, 100), x -> x.letOut(0, 101), NOT);
        refused("NOT ahead of FULL, none left", lettings(100, 100), x -> x.letOut(0, 1), NOT);
        refused("n of 10001 ahead of NOT", lettings(50, 0), x -> x.letOut(0, 10001), BAD);
        refused("n of 0 where none is left", lettings(20, 20), x -> x.letOut(0, 0), BAD);
        refused("n of -1 where none is left", lettings(20, 20), x -> x.letOut(0, -1), BAD);
        refused("no such cargo ahead of FULL", lettings(200, 100), x -> x.letOut(2, 1), BAD);
        refused("no such cargo ahead of FULL", lettings(200, 100), x -> x.letOut(-1, 1), BAD);
        refused("n of 0 ahead of FULL", lettings(200, 100), x -> x.letOut(0, 0), BAD);
        refused("n of 10001 ahead of NOT and FULL", lettings(200, 100), x -> x.letOut(0, 10001), BAD);
    }

    private static void promise18ShipNot() {
        taken("all that is in bond", lettings(50, 0), x -> x.ship(0, 50), 0);
        refused("one more", lettings(50, 0), x -> x.ship(0, 51), NOT);
        refused("the most", lettings(9999, 0), x -> x.ship(0, 10000), NOT);
        refused("more than the rest", lettings(50, 20), x -> x.ship(0, 31), NOT);
        refused("when all is out", lettings(20, 20), x -> x.ship(0, 1), NOT);
        refused("when all is shipped", lettings(50, 0).andThen(x -> x.ship(0, 50)), x -> x.ship(0, 1), NOT);
        refused("n of 10001 ahead of NOT", lettings(50, 0), x -> x.ship(0, 10001), BAD);
        refused("n of 0 where none is left", lettings(20, 20), x -> x.ship(0, 0), BAD);
        refused("n of -1 where none is left", lettings(20, 20), x -> x.ship(0, -1), BAD);
    }
}
