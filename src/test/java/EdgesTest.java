/** The document's sentences on returns and scales that name an edge, each with a test of its own. */
public final class EdgesTest {
    private static final Check CHECK = new Check();

    public static void main(String[] args) {
        theWeekIs0AtFirst();
        swornAtTheWeek();
        struckFromTheWeekOn();
        struckOnesAreCounted();
        knownFromSwornTillStruck();
        weeklyIsCut();
        weeklyLooksBack();
        weeklyNoneAheadOfWeek0();
        averageOfSixWeeksBehindT();
        averageIsCut();
        averageNoneIfOneIsNone();
        averageAsKnownAtT();
        townsOfOneWeekAlone();
        scaleFromAWeekOn();
        forceWithAStep();
        forceLatestWeekThenLastTold();
        dutyAtTheEdgesOfSteps();
        dutyOfTheFirstStep();
        dutyWithoutScale();
        dutyOfHangingIsCut();
        dutyOfHangingIsThatOfTheOther();
        CHECK.end();
    }

    /** "THE WEEK is 0 at first and goes on." */
    private static void theWeekIs0AtFirst() {
        CornLaws x = new CornLaws();
        CHECK.due("at first", x.count(0), 0);
        CHECK.due("a return at first", x.sold(x.sale(0, 0, 0, 1, 1), 5), 0);
        CHECK.due("a cargo at first", x.bond(x.cargo(0, 1), 5), 0);
        CHECK.due("it goes on", x.weeks(3), 3);
        CHECK.due("and on", x.weeks(4), 7);
        CHECK.due("the return stays", x.sold(0, 5), 0);
        CHECK.due("the cargo stays", x.bond(0, 5), 0);
    }

    /** "for a WEEK that is not behind THE WEEK .. it is SWORN at THE WEEK" */
    private static void swornAtTheWeek() {
        CornLaws x = Weeks.newAt(200);
        x.sale(0, 0, 0, 1, 1);
        x.sale(0, 0, 200, 1, 1);
        for (int k = 0; k < 2; k++) {
            CHECK.due("its week", x.sold(k, 2), 200 * k);
            CHECK.due("sworn at the last week", x.sold(k, 5), 200);
            CHECK.due("struck at the last week", x.strike(k), 1);
            CHECK.due("when struck", x.sold(k, 6), 200);
        }
    }

    /** "It may be STRUCK, once, at a later time (from THE WEEK then on)." */
    private static void struckFromTheWeekOn() {
        CornLaws x = new CornLaws();
        x.sale(0, 0, 0, 1, 5);
        x.sale(0, 1, 0, 1, 6);
        CHECK.due("known at 0", x.weekly(0, 0, 0), 5);
        CHECK.due("struck in the week when sworn", x.strike(0), 1);
        CHECK.due("when struck: 0 is not NONE", x.sold(0, 6), 0);
        CHECK.due("known at no week", x.weekly(0, 0, 0), -1);
        CHECK.due("known at no week", x.weekly(0, 0, 200), -1);
        CHECK.due("one is struck", x.count(2), 1);
        CHECK.due("but still a return", x.count(1), 2);
        x.weeks(1);
        CHECK.due("struck the week after", x.strike(1), 1);
        CHECK.due("known at 0 still", x.weekly(1, 0, 0), 6);
        CHECK.due("not known at 1", x.weekly(1, 0, 1), -1);
    }

    /** "2 STRUCK ones": none at first, all in the end. */
    private static void struckOnesAreCounted() {
        CornLaws x = new CornLaws();
        for (int k = 0; k < 60; k++) {
            x.sale(k % 10, k % 3, 0, 1, 1);
            CHECK.due("returns", x.count(1), k + 1);
            CHECK.due("none is struck", x.count(2), 0);
        }
        for (int k = 0; k < 60; k++) {
            x.strike(k);
            x.strike(k);
            CHECK.due("struck ones", x.count(2), k + 1);
        }
        CHECK.due("returns as before", x.count(1), 60);
    }

    /** "KNOWN at a WEEK t are RETURNS that were SWORN at t or before, and not STRUCK at t or before." */
    private static void knownFromSwornTillStruck() {
        CornLaws x = Weeks.newAt(5);
        x.sale(3, 0, 1, 1, 10);
        Weeks.goTo(x, 9);
        x.strike(0);
        for (int t : new int[] {0, 4, 5, 8, 9, 200}) {
            boolean known = t == 5 || t == 8;
            CHECK.due("weekly as known at " + t, x.weekly(0, 1, t), known ? 10 : -1);
            CHECK.due("towns as known at " + t, x.towns(1, t), known ? 1 : 0);
        }
        for (int t : new int[] {7, 8, 9, 220}) {
            CHECK.due("average as known at " + t, x.average(0, t), t == 7 || t == 8 ? 10 : -1);
        }
    }

    /** "PRICE times QUARTERS together, by QUARTERS together, cut" */
    private static void weeklyIsCut() {
        int[][] due = {{10, 10}, {11, 10}, {12, 10}, {13, 11}, {15, 11}, {16, 12}};
        for (int[] one : due) {
            CornLaws x = new CornLaws();
            x.sale(0, 0, 0, 2, 10);
            x.sale(1, 0, 0, 1, one[0]);
            CHECK.due("two quarters at 10, one at " + one[0], x.weekly(0, 0, 0), one[1]);
        }
        CornLaws most = new CornLaws();
        for (int k = 0; k < 59; k++) {
            most.sale(0, 0, 0, 1000, 2000);
        }
        most.sale(0, 0, 0, 1000, 1999);
        CHECK.due("just under the greatest", most.weekly(0, 0, 0), 1999);
    }

    /** "if there are none, that for WEEK w - 1 as KNOWN at t (and so on ..)" */
    private static void weeklyLooksBack() {
        CornLaws x = Weeks.newAt(7);
        x.sale(0, 0, 2, 1, 20);
        x.sale(0, 1, 6, 1, 99);
        x.sale(0, 0, 7, 1, 70);
        x.weeks(2);
        x.strike(2);
        x.weeks(2);
        x.sale(0, 0, 4, 1, 40);
        CHECK.due("the week itself", x.weekly(0, 2, 7), 20);
        CHECK.due("one week back", x.weekly(0, 3, 7), 20);
        CHECK.due("four weeks back, another grain between", x.weekly(0, 6, 7), 20);
        CHECK.due("the week itself has one", x.weekly(0, 7, 8), 70);
        CHECK.due("far back", x.weekly(0, 200, 8), 70);
        CHECK.due("none but a struck one", x.weekly(0, 7, 9), 20);
        CHECK.due("far back over a struck one", x.weekly(0, 200, 10), 20);
        CHECK.due("not yet sworn between", x.weekly(0, 4, 10), 20);
        CHECK.due("sworn between", x.weekly(0, 4, 11), 40);
        CHECK.due("back to the one sworn between", x.weekly(0, 7, 11), 40);
        CHECK.due("ahead of the one sworn between", x.weekly(0, 3, 11), 20);
    }

    /** "none ahead of WEEK 0" */
    private static void weeklyNoneAheadOfWeek0() {
        CornLaws x = Weeks.newAt(1);
        x.sale(0, 0, 0, 1, 5);
        x.sale(0, 1, 1, 1, 6);
        CHECK.due("week 0 has one", x.weekly(0, 0, 1), 5);
        CHECK.due("back to week 0", x.weekly(0, 200, 200), 5);
        CHECK.due("week 0 has none, week 1 has", x.weekly(1, 0, 1), -1);
        CHECK.due("week 1 has one", x.weekly(1, 1, 1), 6);
        CHECK.due("a grain without", x.weekly(2, 0, 1), -1);
        CHECK.due("a grain without, from the last week", x.weekly(2, 200, 200), -1);
    }

    /** "WEEKLIES for t - 6 .. t - 1" */
    private static void averageOfSixWeeksBehindT() {
        CornLaws x = new CornLaws();
        x.sale(0, 0, 0, 1, 606);
        x.weeks(1);
        x.sale(0, 0, 1, 1, 6);
        x.weeks(5);
        x.sale(0, 0, 6, 1, 2000);
        CHECK.due("t - 6 counts", x.average(0, 6), 106);
        // 6 five times and 2000
        CHECK.due("t - 7 counts no more, t - 1 does", x.average(0, 7), 338);
        CHECK.due("at the last week that may be asked", x.average(0, 220), 2000);
    }

    /** "together, by six, cut" */
    private static void averageIsCut() {
        int[][] due = {{10, 10}, {11, 10}, {15, 10}, {16, 11}, {21, 11}, {22, 12}};
        for (int[] one : due) {
            CornLaws x = new CornLaws();
            x.sale(0, 0, 0, 1, 10);
            x.weeks(6);
            x.sale(0, 0, 5, 1, one[0]);
            CHECK.due("five times 10 and " + one[0], x.average(0, 6), one[1]);
        }
    }

    /** "none, if one of these is none" */
    private static void averageNoneIfOneIsNone() {
        CornLaws x = Weeks.newAt(20);
        x.sale(0, 1, 1, 1, 60);
        x.sale(0, 2, 20, 1, 70);
        CornLaws early = new CornLaws();
        early.sale(0, 0, 0, 1, 50);
        for (int t = 0; t <= 7; t++) {
            CHECK.due("from week 0 on, at " + t, early.average(0, t), t >= 6 ? 50 : -1);
        }
        early.weeks(6);
        early.sale(0, 1, 1, 1, 60);
        CHECK.due("from week 1 on: week 0 has none", early.average(1, 6), -1);
        CHECK.due("from week 1 on: all six have one", early.average(1, 7), 60);
        for (int t = 20; t <= 27; t++) {
            CHECK.due("from week 20 on, at " + t, x.average(2, t), t >= 26 ? 70 : -1);
        }
        CHECK.due("sworn at 20, at 19", x.average(1, 19), -1);
        CHECK.due("sworn at 20, at 20", x.average(1, 20), 60);
        CHECK.due("without any", x.average(0, 220), -1);
    }

    /** "as KNOWN at t": of both, the return that came late and the one that was struck. */
    private static void averageAsKnownAtT() {
        CornLaws x = new CornLaws();
        x.sale(0, 0, 0, 1, 10);
        Weeks.goTo(x, 8);
        x.sale(1, 0, 0, 1, 30);
        x.weeks(1);
        x.strike(0);
        CHECK.due("before the second is sworn", x.average(0, 7), 10);
        CHECK.due("when it is sworn", x.average(0, 8), 20);
        CHECK.due("when the first is struck", x.average(0, 9), 30);
        CHECK.due("as known later", x.average(0, 220), 30);
    }

    /** "How many TOWNS have a RETURN for WEEK w that is KNOWN at t (of any GRAIN)." */
    private static void townsOfOneWeekAlone() {
        CornLaws x = Weeks.newAt(4);
        CHECK.due("without any", x.towns(3, 4), 0);
        x.sale(0, 0, 3, 1, 1);
        x.sale(0, 1, 3, 1, 1);
        x.sale(0, 0, 3, 1, 1);
        CHECK.due("one town, three returns", x.towns(3, 4), 1);
        CHECK.due("the week before", x.towns(2, 4), 0);
        CHECK.due("the week after looks back at none", x.towns(4, 4), 0);
        x.strike(0);
        x.strike(1);
        CHECK.due("one of three is left", x.towns(3, 4), 1);
        x.strike(2);
        CHECK.due("none is left", x.towns(3, 4), 0);
        for (int town = 0; town < 10; town++) {
            CHECK.due("towns before town " + town, x.towns(3, 4), town);
            x.sale(town, town % 3, 3, 1, 1);
        }
        CHECK.due("all towns", x.towns(3, 4), 10);
    }

    /** "of a GRAIN, in force from a WEEK on (any, from THE WEEK on)" */
    private static void scaleFromAWeekOn() {
        CornLaws x = Weeks.newAt(9);
        int[] weeks = {9, 10, 200};
        for (int grain = 0; grain < 3; grain++) {
            x.step(x.scale(grain, weeks[grain]), 0, 5);
            CHECK.due("the week before", x.force(grain, weeks[grain] - 1), -1);
            CHECK.due("no duty the week before", x.duty(grain, weeks[grain] - 1), 0);
            CHECK.due("from its week on", x.force(grain, weeks[grain]), grain);
            CHECK.due("its duty from its week on", x.duty(grain, weeks[grain]), 5);
            CHECK.due("the furthest", x.force(grain, 220), grain);
        }
    }

    /** "of the SCALES of a GRAIN with a STEP" */
    private static void forceWithAStep() {
        CornLaws x = new CornLaws();
        x.scale(0, 0);
        CHECK.due("without a step", x.force(0, 220), -1);
        x.step(0, 2000, 0);
        CHECK.due("with a step that no average meets", x.force(0, 0), 0);
        x.scale(0, 0);
        CHECK.due("a later one without a step", x.force(0, 0), 0);
        x.step(1, 0, 0);
        CHECK.due("a later one with a step", x.force(0, 0), 1);
        CHECK.due("of another grain", x.force(1, 220), -1);
    }

    /** "whose WEEK is t or before, that with the latest WEEK, of several the one told last" */
    private static void forceLatestWeekThenLastTold() {
        CornLaws x = new CornLaws();
        int[] weeks = {5, 3, 5, 3, 4};
        for (int week : weeks) {
            x.scale(0, week);
        }
        // Which got its first step last is of no weight.
        for (int s = 4; s >= 0; s--) {
            x.step(s, 0, 10 + s);
        }
        int[] due = {-1, -1, -1, 3, 4, 2, 2};
        for (int t = 0; t <= 6; t++) {
            CHECK.due("in force at " + t, x.force(0, t), due[t]);
            CHECK.due("duty at " + t, x.duty(0, t), due[t] < 0 ? 0 : 10 + due[t]);
        }
        x.weeks(6);
        x.scale(0, 6);
        x.step(5, 0, 1);
        CHECK.due("at 5 as before", x.force(0, 5), 2);
        CHECK.due("at 6 the new one", x.force(0, 6), 5);
    }

    private static CornLaws withAverageOf(int average) {
        CornLaws x = new CornLaws();
        x.sale(0, 0, 0, 1, average);
        return x;
    }

    /** "of the STEPS whose PRICE is not above THE AVERAGE at t the last one's" */
    private static void dutyAtTheEdgesOfSteps() {
        int[][] due = {{1, 30}, {2, 20}, {3, 20}, {999, 20}, {1000, 10}, {1001, 10}, {1999, 10}, {2000, 0}};
        for (int[] one : due) {
            CornLaws x = withAverageOf(one[0]);
            x.scale(0, 0);
            x.step(0, 0, 30);
            x.step(0, 2, 20);
            x.step(0, 1000, 10);
            x.step(0, 2000, 0);
            CHECK.due("at average " + one[0], x.duty(0, 6), one[1]);
        }
        CornLaws eight = withAverageOf(17);
        eight.scale(0, 0);
        for (int i = 0; i < 8; i++) {
            CHECK.due("before step " + i, eight.duty(0, 6), i == 0 ? 0 : i - 1);
            eight.step(0, 10 + i, i);
        }
        CHECK.due("the eighth", eight.duty(0, 6), 7);
    }

    /** "if there is no such STEP, the first one's; where there is no AVERAGE the first one's, too" */
    private static void dutyOfTheFirstStep() {
        int[][] due = {{99, 7}, {100, 7}, {149, 7}, {150, 9}};
        for (int[] one : due) {
            CornLaws x = withAverageOf(one[0]);
            x.scale(0, 0);
            x.step(0, 100, 7);
            x.step(0, 150, 9);
            CHECK.due("at average " + one[0], x.duty(0, 6), one[1]);
            CHECK.due("without an average", x.duty(0, 5), 7);
        }
        CornLaws low = new CornLaws();
        low.scale(0, 0);
        low.step(0, 0, 2000);
        low.step(0, 1, 1);
        CHECK.due("without an average, price 0", low.duty(0, 220), 2000);
    }

    /** "without a SCALE 0" */
    private static void dutyWithoutScale() {
        CornLaws x = withAverageOf(50);
        CHECK.due("without any", x.duty(0, 6), 0);
        x.scale(0, 0);
        CHECK.due("without a step", x.duty(0, 6), 0);
        x.scale(0, 10);
        x.step(1, 0, 4);
        CHECK.due("none in force yet", x.duty(0, 9), 0);
        CHECK.due("one in force", x.duty(0, 10), 4);
        CHECK.due("another grain", x.duty(1, 10), 0);
        x.hang(1, 2, 100, 1);
        CHECK.due("hanging on a grain without", x.duty(1, 10), 0);
    }

    /** "times up, by low (1 .. 100 each), cut" */
    private static void dutyOfHangingIsCut() {
        int[][] due = {{0, 100, 1, 0}, {99, 1, 100, 0}, {100, 1, 100, 1}, {199, 1, 100, 1}, {200, 1, 100, 2},
            {2000, 1, 100, 20}, {2000, 100, 1, 200000}, {7, 3, 2, 10}, {1, 99, 100, 0}, {1, 100, 100, 1}, {5, 1, 1, 5}};
        for (int[] one : due) {
            CornLaws x = new CornLaws();
            x.scale(0, 0);
            x.step(0, 0, one[0]);
            x.hang(1, 0, one[1], one[2]);
            CHECK.due(one[0] + " times " + one[1] + " by " + one[2], x.duty(1, 0), one[3]);
        }
    }

    /** "its DUTY is then that of the other .. whatever its own SCALES" */
    private static void dutyOfHangingIsThatOfTheOther() {
        CornLaws x = withAverageOf(50);
        x.sale(0, 1, 0, 1, 2000);
        x.scale(0, 0);
        x.step(0, 0, 20);
        x.step(0, 51, 10);
        x.scale(1, 0);
        x.step(1, 0, 8);
        x.hang(1, 0, 2, 1);
        CHECK.due("by the other's average", x.duty(1, 6), 40);
        CHECK.due("its own scale is in force still", x.force(1, 6), 1);
        x.sale(0, 0, 0, 1, 52);
        CHECK.due("when the other's average has risen", x.duty(1, 6), 20);
        x.scale(0, 7);
        x.step(2, 0, 1);
        CHECK.due("before the other's new scale", x.duty(1, 6), 20);
        CHECK.due("by the other's new scale", x.duty(1, 7), 2);
        x.unhang(1);
        CHECK.due("hanging no more", x.duty(1, 7), 8);
    }
}
