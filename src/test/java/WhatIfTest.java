/** Promises 21 to 24: worth, other, gain, best. */
public final class WhatIfTest {
    private static final int LEAST = Integer.MIN_VALUE;
    private static final int MOST = Integer.MAX_VALUE;
    private static final long BAD_LONG = Long.MIN_VALUE;
    private static final Check CHECK = new Check();

    public static void main(String[] args) {
        promise21Worth();
        promise21WorthAsKnownThen();
        promise21WorthByWhatIsToldNow();
        promise22Other();
        promise22OtherWithoutStep();
        promise22OtherOfHanging();
        promise23Gain();
        promise23GainBelow0();
        promise23GainByWhatIsKnownNow();
        promise24Best();
        CHECK.end();
    }

    /** Grain 0 with a duty of 20, of 3 from an average of 50 on; 1000 quarters of it in bond. */
    private static CornLaws withScaleAndCargo() {
        CornLaws x = new CornLaws();
        x.scale(0, 0);
        x.step(0, 0, 20);
        x.step(0, 50, 3);
        x.cargo(0, 1000);
        return x;
    }

    private static void promise21Worth() {
        CornLaws x = withScaleAndCargo();
        x.sale(0, 0, 0, 10, 40);
        x.sale(1, 0, 0, 10, 80);
        x.sale(2, 1, 0, 10, 80);
        CHECK.due("nothing let out yet", x.worth(0), 0);
        x.weeks(6);
        x.letOut(0, 100);
        x.weeks(1);
        x.letOut(0, 10);
        CHECK.due("110 at 3", x.chest(), 330);
        CHECK.due("without the low one the average is 80", x.worth(0), 0);
        CHECK.due("without the high one it is 40: 110 at 20", x.worth(1), 1870);
        CHECK.due("of another grain", x.worth(2), 0);
        x.sale(3, 0, 0, 1000, 1);
        CHECK.due("sworn at 7, known at 7, though let out before", x.worth(3), 0);
        CHECK.due("all duties are told anew: 10 at 20 now", x.worth(2), 170);
        CHECK.due("the chest stays", x.chest(), 330);
        CHECK.due("the return stays", x.count(1), 4);
        for (int wrong : new int[] {-1, 4, LEAST, MOST}) {
            CHECK.due("worth(" + wrong + ")", x.worth(wrong), BAD_LONG);
        }
    }

    private static void promise21WorthAsKnownThen() {
        CornLaws x = withScaleAndCargo();
        x.sale(0, 0, 0, 10, 40);
        x.sale(1, 0, 0, 30, 80);
        x.weeks(6);
        x.letOut(0, 100);
        x.weeks(1);
        x.strike(1);
        x.letOut(0, 100);
        CHECK.due("100 at 3, 100 at 20", x.chest(), 2300);
        CHECK.due("a struck one had its worth before", x.worth(1), 1700);
        // Alone it is no better known, so without it there is no average at 7.
        CHECK.due("the first alone counts for nothing", x.worth(0), 0);
        x.weeks(5);
        x.sale(2, 0, 0, 1000, 2000);
        CHECK.due("one sworn after all lettings out", x.worth(2), 0);
    }

    private static void promise21WorthByWhatIsToldNow() {
        CornLaws x = withScaleAndCargo();
        x.cargo(1, 100);
        x.sale(0, 2, 0, 1, 1);
        x.letOut(1, 10);
        x.letOut(0, 10);
        CHECK.due("free, and 10 at 20", x.chest(), 200);
        CHECK.due("it changes no duty", x.worth(0), 0);
        x.hang(1, 0, 1, 2);
        CHECK.due("less what the chest has: 10 at 10 more", x.worth(0), 100);
        x.unhang(1);
        CHECK.due("it changes no duty again", x.worth(0), 0);
        x.scale(0, 0);
        x.step(1, 0, 1);
        CHECK.due("a scale told after: 10 at 1, less 200", x.worth(0), -190);
    }

    private static void promise22Other() {
        CornLaws x = withScaleAndCargo();
        x.scale(0, 9);
        x.step(1, 40, 100);
        x.step(1, 60, 50);
        x.scale(1, 0);
        x.step(2, 0, 7);
        x.cargo(1, 50);
        x.sale(0, 0, 0, 1, 60);
        x.letOut(0, 10);
        x.weeks(6);
        x.letOut(0, 10);
        x.letOut(1, 5);
        x.weeks(4);
        x.letOut(0, 10);
        // 10 at 20, 10 at 3, 5 at 7, 10 at 50
        CHECK.due("the chest", x.chest(), 765);
        CHECK.due("by the first: 200, 30, 35, 30", x.other(0), 295);
        CHECK.due("by the second, before its week too: 1000, 500, 35, 500", x.other(1), 2035);
        CHECK.due("by that of another grain", x.other(2), 765);
        CHECK.due("the chest stays", x.chest(), 765);
        CHECK.due("the scale in force stays", x.force(0, 6), 0);
        x.strike(0);
        CHECK.due("struck after the last letting out's week began", x.other(0), 465);
        for (int wrong : new int[] {-1, 3, LEAST, MOST}) {
            CHECK.due("other(" + wrong + ")", x.other(wrong), -2);
        }
    }

    private static void promise22OtherWithoutStep() {
        CornLaws x = withScaleAndCargo();
        x.hang(1, 0, 2, 1);
        x.cargo(1, 10);
        x.cargo(2, 10);
        x.letOut(0, 1);
        x.letOut(1, 1);
        x.scale(2, 0);
        x.step(1, 0, 8);
        x.letOut(2, 1);
        x.scale(0, 100);
        CHECK.due("20, 40, 8", x.chest(), 68);
        CHECK.due("without a step 0, on it too", x.other(2), 8);
        CHECK.due("by the one in force", x.other(0), 68);
        x.step(2, 0, 5);
        CHECK.due("with a step: 5, 10, 8", x.other(2), 23);
    }

    private static void promise22OtherOfHanging() {
        CornLaws x = withScaleAndCargo();
        x.scale(1, 0);
        x.step(1, 0, 99);
        x.cargo(1, 10);
        x.hang(1, 0, 1, 3);
        x.letOut(1, 10);
        CHECK.due("10 at 6", x.chest(), 60);
        CHECK.due("whatever the scales of one that hangs", x.other(1), 60);
        x.unhang(1);
        CHECK.due("hangings as they are told now", x.other(1), 990);
        CHECK.due("by whichever scale", x.other(0), 990);
    }

    private static void promise23Gain() {
        CornLaws x = withScaleAndCargo();
        x.sale(0, 0, 0, 1, 50);
        CHECK.due("now, without an average", x.gain(0, 0, 60), 40000);
        CHECK.due("in six weeks", x.gain(0, 6, 60), 57000);
        CHECK.due("the furthest", x.gain(0, 20, 60), 57000);
        x.spoil(50);
        // 1000, 950, 903, 858, 816, 776, 738
        CHECK.due("one week on", x.gain(0, 1, 60), 950 * 40);
        CHECK.due("three weeks on", x.gain(0, 3, 60), 858 * 40);
        CHECK.due("six weeks on", x.gain(0, 6, 60), 738 * 57);
        x.letOut(0, 990);
        CHECK.due("only what is in bond", x.gain(0, 6, 60), 570);
        CHECK.due("nothing was taken", x.bond(0, 1), 10);
        x.scale(0, 4);
        x.step(1, 0, 1);
        CHECK.due("by the scale in force then", x.gain(0, 4, 60), 590);
        x.cargo(0, 1000);
        x.weeks(3);
        CHECK.due("weeks gone by spoil no more: 858", x.gain(1, 3, 60), 858 * 40);
        CHECK.due("one week on: 816", x.gain(1, 4, 60), 816 * 59);
        CHECK.due("nothing spoils under twenty", x.gain(0, 4, 60), 590);
        x.ship(0, 10);
        CHECK.due("none in bond", x.gain(0, 4, 60), 0);
    }

    private static void promise23GainBelow0() {
        CornLaws x = new CornLaws();
        x.scale(0, 0);
        x.step(0, 0, 2000);
        x.hang(1, 0, 100, 1);
        x.cargo(1, 10000);
        x.cargo(0, 7);
        x.cargo(2, 10000);
        CHECK.due("the least", x.gain(0, 0, 0), -2000000000L);
        CHECK.due("price 1999 less 2000", x.gain(1, 0, 1999), -7);
        CHECK.due("price as duty", x.gain(1, 0, 2000), 0);
        CHECK.due("the most", x.gain(2, 20, 2000), 20000000);
    }

    private static void promise23GainByWhatIsKnownNow() {
        CornLaws x = withScaleAndCargo();
        x.sale(0, 0, 0, 1, 40);
        x.weeks(6);
        x.sale(0, 0, 6, 1, 80);
        x.weeks(1);
        // Averages: at 7 280 by six, at 8 320 by six, at 9 360 by six, as the last weekly goes on.
        CHECK.due("at 7: 46", x.gain(0, 7, 60), 40000);
        CHECK.due("at 8: 53", x.gain(0, 8, 60), 57000);
        x.strike(1);
        CHECK.due("at 8, one struck: 40", x.gain(0, 8, 60), 40000);
    }

    private static void promise24Best() {
        CornLaws x = withScaleAndCargo();
        x.sale(0, 0, 0, 1, 50);
        CHECK.due("of several the first", x.best(0, 20, 60), 6);
        CHECK.due("just far enough", x.best(0, 6, 60), 6);
        CHECK.due("not far enough", x.best(0, 5, 60), 0);
        CHECK.due("now", x.best(0, 0, 60), 0);
        x.scale(0, 1);
        x.step(1, 0, 19);
        CHECK.due("the next week", x.best(0, 1, 60), 1);
        x.scale(0, 2);
        x.step(2, 0, 20);
        x.step(2, 50, 3);
        CHECK.due("the next week, of five", x.best(0, 5, 60), 1);
        x.spoil(50);
        // At 0 1000 times 40, at 6 738 times 57; with a price of 100: 80000, 71586; of 30: 10000, 19926
        CHECK.due("spoiling makes it worse", x.best(0, 20, 100), 0);
        CHECK.due("but the duty is worth more", x.best(0, 20, 30), 6);
        CHECK.due("what is least below 0", x.best(0, 20, 0), 20);
        x.weeks(3);
        CHECK.due("from THE WEEK on", x.best(0, 20, 200), 3);
        x.ship(0, x.bond(0, 1));
        CHECK.due("with nothing in bond the first", x.best(0, 20, 0), 3);
        CornLaws last = withScaleAndCargo();
        for (int i = 0; i < 10; i++) {
            last.weeks(20);
        }
        last.sale(0, 0, 199, 1, 2000);
        CHECK.due("behind the last week", last.best(0, 20, 30), 205);
    }
}
