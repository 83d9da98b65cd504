/** The document's sentences on cargoes and what if that name an edge, each with a test of its own. */
public final class BondEdgesTest {
    private static final int CALLS = 512;
    private static final Check CHECK = new Check();

    public static void main(String[] args) {
        cargoComesAtTheWeek();
        spoil0AtFirst();
        spoiltIsCut();
        spoiltAtEachWeekThatBegins();
        letOutPaysNTimesDuty();
        letOutForNothing();
        shippedIsFree();
        cargoIsAllTogether();
        worthWithoutLettingsOut();
        worthOfTheOnlyReturn();
        worthOfAStruckReturn();
        worthLetsTheWeekBeforeCount();
        worthByTheScaleInForce();
        worthMayBeAnyNumber();
        otherWithoutLettingsOut();
        otherAtAllWeeks();
        otherByAveragesThen();
        otherWithoutAStep();
        gainOfNothing();
        gainMayBeAnyNumber();
        gainSpoilsTillT();
        gainByWhatIsKnownNow();
        bestOfSeveralTheFirst();
        bestAllBelow0();
        bestWithinNWeeks();
        lastCall();
        laterCallsEnd();
        CHECK.end();
    }

    /** Grain 0 with a duty of 'low' under an average of 50, of 'high' from there on; a cargo of it. */
    private static CornLaws withDuties(int low, int high, int quarters) {
        CornLaws x = new CornLaws();
        x.scale(0, 0);
        x.step(0, 0, low);
        x.step(0, 50, high);
        x.cargo(0, quarters);
        return x;
    }

    /** "they come into BOND at THE WEEK" */
    private static void cargoComesAtTheWeek() {
        CornLaws x = Weeks.newAt(199);
        x.spoil(100);
        x.cargo(0, 1000);
        CHECK.due("whole in its week", x.bond(0, 1), 1000);
        x.weeks(1);
        CHECK.due("spoilt from the week after on", x.bond(0, 1), 900);
        x.cargo(0, 1000);
        CHECK.due("came at 199", x.bond(0, 5), 199);
        CHECK.due("came at the last week", x.bond(1, 5), 200);
        CHECK.due("no week begins any more", x.weeks(1), -2);
        CHECK.due("nothing spoils any more", x.bond(1, 1), 1000);
    }

    /** "by SPOIL thousandths (0 .. 100; 0 at first)" */
    private static void spoil0AtFirst() {
        CornLaws x = new CornLaws();
        x.cargo(0, 10000);
        for (int i = 0; i < 10; i++) {
            x.weeks(20);
        }
        CHECK.due("nothing spoils", x.bond(0, 1), 10000);
        CHECK.due("nothing was spoilt", x.bond(0, 4), 0);
        CHECK.due("0 it was", x.spoil(0), 0);
    }

    /** "of it, cut": the loss is cut, not what is left. */
    private static void spoiltIsCut() {
        int[][] due = {{0, 10000, 0}, {1, 1, 0}, {1, 999, 0}, {1, 1000, 1}, {1, 1999, 1}, {1, 10000, 10},
            {100, 1, 0}, {100, 9, 0}, {100, 10, 1}, {100, 19, 1}, {100, 20, 2}, {100, 10000, 1000}, {99, 10, 0},
            {99, 11, 1}, {33, 30, 0}, {33, 31, 1}};
        for (int[] one : due) {
            CornLaws x = new CornLaws();
            x.spoil(one[0]);
            x.cargo(0, one[1]);
            x.weeks(1);
            CHECK.due(one[0] + " thousandths of " + one[1], x.bond(0, 4), one[2]);
            CHECK.due(one[0] + " thousandths less than " + one[1], x.bond(0, 1), one[1] - one[2]);
        }
    }

    /** "At each WEEK that begins, what each has in BOND becomes less" */
    private static void spoiltAtEachWeekThatBegins() {
        CornLaws once = new CornLaws();
        CornLaws oneByOne = new CornLaws();
        int[] in = {10000, 7777, 21};
        for (int quarters : in) {
            once.cargo(0, quarters);
            oneByOne.cargo(0, quarters);
        }
        once.spoil(37);
        oneByOne.spoil(37);
        once.weeks(20);
        for (int i = 0; i < 20; i++) {
            oneByOne.weeks(1);
        }
        for (int c = 0; c < 3; c++) {
            int left = in[c];
            for (int i = 0; i < 20; i++) {
                left -= left * 37 / 1000;
            }
            CHECK.due("twenty weeks at once", once.bond(c, 1), left);
            CHECK.due("twenty weeks one by one", oneByOne.bond(c, 1), left);
        }
        CHECK.due("under 28 nothing spoils", once.bond(2, 1), 21);
    }

    /** "n times DUTY is paid into THE CHEST" */
    private static void letOutPaysNTimesDuty() {
        CornLaws x = withDuties(2000, 0, 10000);
        x.hang(1, 0, 100, 1);
        x.cargo(1, 10000);
        CHECK.due("one quarter", x.letOut(0, 1), 2000);
        CHECK.due("all the rest", x.letOut(0, 9999), 19998000);
        CHECK.due("the greatest that is paid", x.letOut(1, 10000), 2000000000L);
        CHECK.due("the chest", x.chest(), 2020000000L);
        CHECK.due("lettings out", x.count(5), 3);
    }

    /** "without a SCALE 0": a letting out for nothing is one of the 100. */
    private static void letOutForNothing() {
        CornLaws x = new CornLaws();
        x.cargo(0, 200);
        for (int i = 0; i < 100; i++) {
            CHECK.due("letting " + i, x.letOut(0, 1), 0);
        }
        CHECK.due("one more", x.letOut(0, 1), -4);
        CHECK.due("the chest", x.chest(), 0);
        CHECK.due("lettings out", x.count(5), 100);
    }

    /** "SHIPPED: n QUARTERS go away again, free." */
    private static void shippedIsFree() {
        CornLaws x = withDuties(9, 9, 150);
        for (int i = 1; i <= 150; i++) {
            CHECK.due("shipped " + i, x.ship(0, 1), 150 - i);
        }
        CHECK.due("none is left", x.ship(0, 1), -3);
        CHECK.due("the chest", x.chest(), 0);
        CHECK.due("lettings out", x.count(5), 0);
    }

    /** "What a CARGO came with is what is in BOND, was LET OUT, SHIPPED, SPOILT together." */
    private static void cargoIsAllTogether() {
        CornLaws x = withDuties(9, 9, 9999);
        x.spoil(73);
        for (int i = 1; i <= 20; i++) {
            x.letOut(0, i);
            x.ship(0, 2 * i);
            x.weeks(i % 3 + 1);
            CHECK.due("in week " + x.count(0), x.bond(0, 1) + x.bond(0, 2) + x.bond(0, 3) + x.bond(0, 4), 9999);
        }
        CHECK.due("let out", x.bond(0, 2), 210);
        CHECK.due("shipped", x.bond(0, 3), 420);
    }

    /** "what THE CHEST would have .. less what it has": nothing, where nothing was let out. */
    private static void worthWithoutLettingsOut() {
        CornLaws x = withDuties(20, 3, 100);
        x.sale(0, 0, 0, 1, 60);
        x.weeks(6);
        CHECK.due("nothing let out", x.worth(0), 0);
        x.ship(0, 50);
        CHECK.due("shipping is free", x.worth(0), 0);
        x.cargo(1, 50);
        x.letOut(1, 50);
        CHECK.due("another grain let out", x.worth(0), 0);
        x.letOut(0, 1);
        CHECK.due("one quarter let out", x.worth(0), 17);
    }

    /** "if that RETURN had never been": no AVERAGE then, so the first STEP's DUTY. */
    private static void worthOfTheOnlyReturn() {
        CornLaws x = withDuties(20, 3, 100);
        x.sale(0, 0, 0, 1, 60);
        x.weeks(5);
        x.letOut(0, 10);
        CHECK.due("no average at 5 with it", x.worth(0), 0);
        x.weeks(1);
        x.letOut(0, 10);
        CHECK.due("paid", x.chest(), 230);
        CHECK.due("an average at 6 with it alone", x.worth(0), 170);
    }

    /** "(All by RETURNS as they were KNOWN at the WEEK of each LETTING OUT ..)" */
    private static void worthOfAStruckReturn() {
        CornLaws x = withDuties(20, 3, 100);
        x.sale(0, 0, 0, 1, 60);
        x.weeks(8);
        x.letOut(0, 10);
        x.weeks(1);
        x.strike(0);
        CHECK.due("struck after the week of the letting out", x.worth(0), 170);
        x.letOut(0, 10);
        CHECK.due("it was paid 10 times 20 more", x.chest(), 230);
        CHECK.due("not known any more at the second", x.worth(0), 170);
        x.sale(0, 0, 0, 1, 60);
        x.weeks(1);
        CHECK.due("one sworn after the first letting out", x.letOut(0, 10), 30);
        // Known at 9, too, so without it all three are dear; what was really paid stays 260.
        CHECK.due("as known at the week of each: at 9, at 10", x.worth(1), 230 + 200 - 260);
    }

    /** "if there are none, that for WEEK w - 1": without a return the week before counts. */
    private static void worthLetsTheWeekBeforeCount() {
        CornLaws x = withDuties(20, 3, 100);
        x.sale(0, 0, 0, 1, 40);
        x.weeks(1);
        x.sale(0, 0, 1, 1, 60);
        x.weeks(6);
        x.letOut(0, 10);
        CHECK.due("average of 60 at 7", x.chest(), 30);
        CHECK.due("without that of week 1 it is 40", x.worth(1), 170);
        CHECK.due("without that of week 0 it is 60 still", x.worth(0), 0);
    }

    /** "all else as it was": each letting out by the SCALE that was in force for it. */
    private static void worthByTheScaleInForce() {
        CornLaws x = withDuties(20, 3, 100);
        x.scale(0, 7);
        x.step(1, 0, 200);
        x.step(1, 50, 100);
        x.scale(1, 0);
        x.step(2, 0, 9);
        x.cargo(1, 100);
        x.sale(0, 0, 0, 1, 60);
        x.sale(0, 1, 0, 1, 60);
        x.weeks(6);
        x.letOut(0, 1);
        x.letOut(1, 1);
        x.weeks(1);
        x.letOut(0, 1);
        CHECK.due("paid 3, 9, 100", x.chest(), 112);
        CHECK.due("without it 20, 9, 200", x.worth(0), 117);
        CHECK.due("one scale knows but one step", x.worth(1), 0);
    }

    /** A WORTH of -2 is none refused: that is the least long. */
    private static void worthMayBeAnyNumber() {
        CornLaws x = withDuties(1, 2, 10000);
        x.sale(0, 0, 0, 1, 50);
        x.weeks(6);
        for (int due = -1; due >= -4; due--) {
            x.letOut(0, 1);
            CHECK.due("worth", x.worth(0), due);
        }
        CHECK.due("of none", x.worth(1), Long.MIN_VALUE);
        CornLaws most = withDuties(2000, 0, 10000);
        most.hang(1, 0, 100, 1);
        most.sale(0, 0, 0, 1, 50);
        most.weeks(6);
        for (int c = 1; c < 20; c++) {
            most.cargo(1, 10000);
            most.letOut(c, 10000);
        }
        CHECK.due("all was free", most.chest(), 0);
        CHECK.due("the greatest worth of 19 cargoes", most.worth(0), 38000000000L);
    }

    /** "what THE CHEST would have": nothing, where nothing was let out. */
    private static void otherWithoutLettingsOut() {
        CornLaws x = withDuties(20, 3, 100);
        x.scale(0, 0);
        CHECK.due("with steps", x.other(0), 0);
        CHECK.due("without steps", x.other(1), 0);
        CHECK.due("none such", x.other(2), -2);
    }

    /** "if that SCALE had been IN FORCE for its GRAIN at all WEEKS (whatever others ..)" */
    private static void otherAtAllWeeks() {
        CornLaws x = withDuties(20, 3, 100);
        x.letOut(0, 1);
        x.scale(0, 200);
        x.step(1, 0, 7);
        x.scale(1, 0);
        x.step(2, 0, 1000);
        x.weeks(1);
        x.scale(0, 1);
        x.step(3, 0, 50);
        x.letOut(0, 1);
        CHECK.due("the chest", x.chest(), 70);
        CHECK.due("the first, over the later one", x.other(0), 40);
        CHECK.due("one whose week is far ahead", x.other(1), 14);
        CHECK.due("of a grain that was not let out", x.other(2), 70);
        CHECK.due("before its week too", x.other(3), 100);
        CHECK.due("what is in force stays", x.force(0, 1), 3);
    }

    /** "All by RETURNS as they were KNOWN at the WEEK of each LETTING OUT": the first of them, too. */
    private static void otherByAveragesThen() {
        CornLaws x = withDuties(20, 3, 100);
        x.scale(0, 200);
        x.step(1, 0, 200);
        x.step(1, 60, 100);
        x.sale(0, 0, 0, 1, 60);
        x.weeks(5);
        x.letOut(0, 1);
        x.weeks(1);
        x.letOut(0, 1);
        x.weeks(1);
        x.strike(0);
        x.letOut(0, 1);
        CHECK.due("paid 20, 3, 20", x.chest(), 43);
        CHECK.due("by the one in force", x.other(0), 43);
        CHECK.due("by the other: 200, 100, 200", x.other(1), 500);
    }

    /** "if it has no STEP, 0 is its DUTY; a GRAIN that HANGS on it, too" */
    private static void otherWithoutAStep() {
        CornLaws x = withDuties(20, 3, 100);
        x.hang(1, 0, 1, 2);
        x.cargo(1, 100);
        x.letOut(0, 1);
        x.letOut(1, 1);
        x.scale(0, 100);
        CHECK.due("the chest", x.chest(), 30);
        CHECK.due("no step", x.other(1), 0);
        x.step(1, 2000, 8);
        CHECK.due("a step", x.other(1), 12);
        x.unhang(1);
        CHECK.due("the other hangs no more", x.other(1), 8);
    }

    /** "what would be in BOND then .. times (PRICE (told) - DUTY at t)": 0, if one of both is 0. */
    private static void gainOfNothing() {
        CornLaws x = withDuties(20, 20, 10);
        CHECK.due("the price is the duty", x.gain(0, 0, 20), 0);
        CHECK.due("one penny above", x.gain(0, 0, 21), 10);
        CHECK.due("one penny under", x.gain(0, 0, 19), -10);
        x.ship(0, 9);
        CHECK.due("one is in bond", x.gain(0, 20, 2000), 1980);
        x.letOut(0, 1);
        CHECK.due("none is in bond", x.gain(0, 20, 2000), 0);
        CHECK.due("none is in bond", x.gain(0, 0, 0), 0);
    }

    /** "(below 0, if that is)": a GAIN of -2 is none refused: that is the least long. */
    private static void gainMayBeAnyNumber() {
        CornLaws x = withDuties(1, 1, 4);
        for (int left = 4; left >= 0; left--) {
            CHECK.due("gain of " + left, x.gain(0, 0, 0), -left);
            x.ship(0, 1);
        }
        CHECK.due("none such", x.gain(1, 0, 0), Long.MIN_VALUE);
        CornLaws least = withDuties(2000, 0, 10000);
        least.hang(1, 0, 100, 1);
        least.cargo(1, 10000);
        CHECK.due("the least", least.gain(1, 20, 0), -2000000000L);
        CHECK.due("best of the least", least.best(1, 20, 0), 0);
    }

    /** "if nothing is taken until t" */
    private static void gainSpoilsTillT() {
        CornLaws x = withDuties(0, 0, 1000);
        x.spoil(100);
        int[] due = {1000, 900, 810, 729, 657, 592};
        for (int t = 0; t < 6; t++) {
            CHECK.due("foreseen at 0 for " + t, x.gain(0, t, 1), due[t]);
        }
        for (int now = 0; now < 6; now++) {
            CHECK.due("in bond at " + now, x.bond(0, 1), due[now]);
            CHECK.due("foreseen at " + now + " for it", x.gain(0, now, 1), due[now]);
            CHECK.due("foreseen at " + now + " for 5", x.gain(0, 5, 1), due[5]);
            CHECK.due("foreseen at " + now + " for the week before", x.gain(0, now - 1, 1), Long.MIN_VALUE);
            x.weeks(1);
        }
        x.spoil(0);
        CHECK.due("by what SPOIL is now", x.gain(0, 26, 1), x.bond(0, 1));
    }

    /** "as foreseen with what is KNOWN now and no more" */
    private static void gainByWhatIsKnownNow() {
        CornLaws x = withDuties(20, 3, 10);
        CHECK.due("no average will be", x.gain(0, 20, 30), 100);
        x.sale(0, 0, 0, 1, 50);
        CHECK.due("five weeks on", x.gain(0, 5, 30), 100);
        CHECK.due("six weeks on", x.gain(0, 6, 30), 270);
        x.strike(0);
        CHECK.due("struck now", x.gain(0, 6, 30), 100);
        x.scale(0, 20);
        x.step(1, 0, 1);
        CHECK.due("a scale that is told, not in force yet", x.gain(0, 19, 30), 100);
        CHECK.due("a scale that is told, in force then", x.gain(0, 20, 30), 290);
    }

    /** "that WEEK with the greatest GAIN, of several the first" */
    private static void bestOfSeveralTheFirst() {
        CornLaws x = withDuties(20, 20, 10);
        CHECK.due("all alike", x.best(0, 20, 30), 0);
        int[] weeks = {3, 4, 7, 9};
        int[] duties = {10, 20, 10, 11};
        for (int i = 0; i < 4; i++) {
            x.step(x.scale(0, weeks[i]), 0, duties[i]);
        }
        CHECK.due("3, 7 and 8 alike", x.best(0, 20, 30), 3);
        x.weeks(4);
        CHECK.due("7 and 8 alike", x.best(0, 16, 30), 7);
        x.weeks(5);
        CHECK.due("all alike again", x.best(0, 20, 30), 9);
        x.ship(0, 10);
        CHECK.due("nothing in bond", x.best(0, 20, 30), 9);
    }

    private static void bestAllBelow0() {
        CornLaws x = withDuties(20, 20, 100);
        CHECK.due("all alike below 0", x.best(0, 20, 0), 0);
        x.spoil(10);
        CHECK.due("the least left", x.best(0, 20, 0), 1);
        // 100, 99 and no more lost
        CHECK.due("the least left is as much later on", x.gain(0, 20, 0), -1980);
        CHECK.due("0 at all weeks", x.best(0, 20, 20), 0);
        CHECK.due("above 0 it is best at once", x.best(0, 20, 21), 0);
    }

    /** "from THE WEEK on for n more WEEKS (0 .. 20)" */
    private static void bestWithinNWeeks() {
        CornLaws x = Weeks.newAt(190);
        x.cargo(0, 10);
        x.step(x.scale(0, 190), 0, 50);
        x.step(x.scale(0, 200), 0, 5);
        CHECK.due("n of 0: THE WEEK alone", x.best(0, 0, 60), 190);
        CHECK.due("the week before the better", x.best(0, 9, 60), 190);
        CHECK.due("the better week is the last", x.best(0, 10, 60), 200);
        CHECK.due("behind it", x.best(0, 20, 60), 200);
        x.weeks(10);
        x.sale(0, 0, 200, 1, 2000);
        x.step(x.scale(0, 200), 0, 50);
        x.step(2, 2000, 1);
        CHECK.due("behind the last week, no average yet", x.best(0, 5, 60), 200);
        CHECK.due("behind the last week, an average", x.best(0, 6, 60), 206);
        CHECK.due("behind the last week, the furthest", x.best(0, 20, 60), 206);
    }

    /** "An object is used for at most 512 calls": the last of them answers as the first. */
    private static void lastCall() {
        CornLaws x = withDuties(20, 3, 10);
        for (int call = 4; call < CALLS; call++) {
            CHECK.due("call " + call, x.gain(0, 0, 30), 100);
        }
        CHECK.due("call " + CALLS, x.letOut(0, 10), 200);
    }

    /** What later calls answer is free, but not that they answer. */
    private static void laterCallsEnd() {
        CornLaws x = withDuties(20, 3, 10);
        int[] numbers = {0, 1, 2, 5, 9, 100, 2000, -1, Integer.MIN_VALUE, Integer.MAX_VALUE};
        for (int i = 0; i < 20000; i++) {
            int a = numbers[i % 10];
            int b = numbers[i / 10 % 10];
            int c = numbers[i / 100 % 10];
            x.sale(a, b, c, 1, 1);
            x.scale(a, b);
            x.step(a, i, b);
            x.hang(a, b, 1 + i % 100, c);
            x.cargo(a, b);
            x.letOut(a, b);
            x.ship(a, c);
            x.worth(a);
            x.other(a);
            x.gain(a, b, c);
            x.best(a, b, c);
            x.weeks(a);
            x.spoil(a);
            x.strike(b);
            x.unhang(i % 3);
            x.count(a);
            x.sold(a, b);
            x.bond(a, b);
            x.weekly(a, b, c);
            x.average(a, b);
            x.towns(a, b);
            x.force(a, b);
            x.duty(a, b);
        }
        CHECK.due("the bounds hold", x.count(1) <= 60 && x.count(3) <= 8 && x.count(4) <= 20 ? 1 : 0, 1);
    }
}
