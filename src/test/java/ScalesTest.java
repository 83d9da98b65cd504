/** Promises 9 to 14: scales, steps, hangings, duties. */
public final class ScalesTest {
    private static final int LEAST = Integer.MIN_VALUE;
    private static final int MOST = Integer.MAX_VALUE;
    private static final Check CHECK = new Check();

    public static void main(String[] args) {
        promise9Scale();
        promise10Step();
        promise10StepNotNow();
        promise11Hang();
        promise11HangAgain();
        promise12Unhang();
        promise13Force();
        promise14DutyBySteps();
        promise14DutyOfTheWeek();
        promise14DutyOfHanging();
        CHECK.end();
    }

    private static void promise9Scale() {
        CornLaws x = Weeks.newAt(30);
        for (int wrong : new int[] {-1, 29, 201, LEAST, MOST}) {
            CHECK.due("scale from " + wrong, x.scale(0, wrong), -2);
        }
        for (int wrong : new int[] {-1, 3, LEAST, MOST}) {
            CHECK.due("scale of grain " + wrong, x.scale(wrong, 30), -2);
        }
        CHECK.due("none was told", x.count(3), 0);
        CHECK.due("scale from THE WEEK", x.scale(0, 30), 0);
        CHECK.due("scale from the last week", x.scale(2, 200), 1);
        CHECK.due("a scale without steps is not in force", x.force(0, 30), -1);
        CHECK.due("nor does it bring a duty", x.duty(0, 30), 0);
    }

    private static void promise10Step() {
        CornLaws x = new CornLaws();
        CHECK.due("step of no scale", x.step(0, 0, 0), -2);
        x.scale(0, 0);
        for (int wrong : new int[] {-1, 2001, LEAST, MOST}) {
            CHECK.due("step from price " + wrong, x.step(0, wrong, 0), -2);
            CHECK.due("step with duty " + wrong, x.step(0, 0, wrong), -2);
            CHECK.due("step of scale " + wrong, x.step(wrong, 0, 0), -2);
        }
        CHECK.due("step of scale 1", x.step(1, 0, 0), -2);
        CHECK.due("no step was told", x.force(0, 0), -1);
        CHECK.due("the lowest", x.step(0, 0, 2000), 1);
        CHECK.due("a price as the last", x.step(0, 0, 1), -2);
        CHECK.due("a price above, a duty that need not fall", x.step(0, 1, 2000), 2);
        CHECK.due("a price under the last", x.step(0, 0, 1), -2);
        CHECK.due("the highest", x.step(0, 2000, 0), 3);
        CHECK.due("duty by the first", x.duty(0, 0), 2000);
    }

    private static void promise10StepNotNow() {
        CornLaws x = Weeks.newAt(3);
        x.scale(0, 3);
        x.scale(0, 5);
        CHECK.due("told at THE WEEK, for it", x.step(0, 10, 1), 1);
        CHECK.due("told for later", x.step(1, 10, 1), 1);
        x.weeks(1);
        CHECK.due("its week is past", x.step(0, 20, 1), -3);
        CHECK.due("BAD comes before NOT", x.step(0, 10, 1), -2);
        CHECK.due("its week is to come", x.step(1, 20, 2), 2);
        x.weeks(1);
        CHECK.due("its week is THE WEEK", x.step(1, 30, 3), -3);
        x.sale(0, 0, 0, 1, 2000);
        x.weeks(1);
        CHECK.due("no step was told", x.duty(0, 6), 2);
    }

    private static void promise11Hang() {
        CornLaws x = new CornLaws();
        x.scale(0, 0);
        x.step(0, 0, 7);
        CHECK.due("hang(1, 0)", x.hang(1, 0, 3, 2), 1);
        CHECK.due("hang(2, 0)", x.hang(2, 0, 100, 1), 1);
        CHECK.due("21 by 2, cut", x.duty(1, 0), 10);
        CHECK.due("times 100", x.duty(2, 0), 700);
        CHECK.due("the other stays", x.duty(0, 0), 7);
    }

    /** Only what the promise names is refused: one that hangs may hang anew. */
    private static void promise11HangAgain() {
        CornLaws x = new CornLaws();
        x.scale(0, 0);
        x.step(0, 0, 10);
        x.scale(2, 0);
        x.step(1, 0, 30);
        x.hang(1, 0, 1, 1);
        CHECK.due("anew on the same", x.hang(1, 0, 2, 1), 1);
        CHECK.due("in the new proportion", x.duty(1, 0), 20);
        CHECK.due("anew on another", x.hang(1, 2, 1, 3), 1);
        CHECK.due("by the other", x.duty(1, 0), 10);
        CHECK.due("the first bears none now", x.hang(0, 2, 1, 1), 1);
    }

    private static void promise12Unhang() {
        CornLaws x = new CornLaws();
        x.scale(0, 0);
        x.step(0, 0, 10);
        for (int wrong : new int[] {-1, 3, LEAST, MOST}) {
            CHECK.due("unhang " + wrong, x.unhang(wrong), -2);
        }
        CHECK.due("it does not hang", x.unhang(2), -3);
        x.hang(2, 0, 1, 1);
        CHECK.due("one that bears does not hang", x.unhang(0), -3);
        CHECK.due("it hangs", x.unhang(2), 1);
        CHECK.due("it hangs no more", x.unhang(2), -3);
        CHECK.due("its duty is its own", x.duty(2, 0), 0);
        CHECK.due("the other may hang now", x.hang(0, 2, 1, 1), 1);
    }

    private static void promise13Force() {
        CornLaws x = new CornLaws();
        int[] weeks = {0, 10, 5, 10, 20, 5};
        int[] grains = {0, 0, 0, 0, 1, 0};
        for (int s = 0; s < 6; s++) {
            x.scale(grains[s], weeks[s]);
            if (s != 5) {
                x.step(s, 0, s);
            }
        }
        CHECK.due("from 0", x.force(0, 0), 0);
        CHECK.due("to 4", x.force(0, 4), 0);
        CHECK.due("from 5, the last has no step", x.force(0, 5), 2);
        CHECK.due("to 9", x.force(0, 9), 2);
        CHECK.due("from 10, the one told last", x.force(0, 10), 3);
        CHECK.due("the furthest", x.force(0, 220), 3);
        x.step(5, 0, 5);
        CHECK.due("one that has a step now", x.force(0, 9), 5);
        CHECK.due("a latest week counts more than when told", x.force(0, 10), 3);
        CHECK.due("another grain, before", x.force(1, 19), -1);
        CHECK.due("another grain", x.force(1, 20), 4);
        x.hang(1, 0, 1, 1);
        CHECK.due("hanging does not put it out of force", x.force(1, 20), 4);
        CHECK.due("a grain without", x.force(2, 220), -1);
        for (int wrong : new int[] {-1, 221, LEAST, MOST}) {
            CHECK.due("force at " + wrong, x.force(0, wrong), -2);
            CHECK.due("force of grain " + wrong, x.force(wrong, 0), -2);
        }
        CHECK.due("force of grain 3", x.force(3, 0), -2);
    }

    private static void promise14DutyBySteps() {
        int[] averages = {1, 49, 50, 51, 59, 60, 69, 70, 2000};
        int[] due = {24, 24, 24, 24, 24, 9, 9, 1, 1};
        for (int i = 0; i < averages.length; i++) {
            CornLaws x = new CornLaws();
            x.scale(0, 0);
            x.step(0, 50, 24);
            x.step(0, 60, 9);
            x.step(0, 70, 1);
            x.sale(0, 0, 0, 1, averages[i]);
            CHECK.due("no average yet", x.duty(0, 5), 24);
            CHECK.due("at average " + averages[i], x.duty(0, 6), due[i]);
        }
        CornLaws zero = new CornLaws();
        zero.scale(0, 0);
        zero.step(0, 0, 3);
        zero.step(0, 1, 4);
        CHECK.due("no average is no average of 0 or 1", zero.duty(0, 6), 3);
    }

    private static void promise14DutyOfTheWeek() {
        CornLaws x = new CornLaws();
        x.sale(0, 0, 0, 1, 60);
        x.scale(0, 0);
        x.step(0, 0, 50);
        x.step(0, 61, 5);
        x.scale(0, 8);
        x.step(1, 0, 40);
        x.step(1, 61, 4);
        x.weeks(6);
        x.sale(0, 0, 5, 1, 66);
        x.weeks(1);
        CHECK.due("average at 6, as known then", x.average(0, 6), 61);
        CHECK.due("duty at 6", x.duty(0, 6), 5);
        CHECK.due("average at 5", x.average(0, 5), -1);
        CHECK.due("duty at 5", x.duty(0, 5), 50);
        x.strike(1);
        CHECK.due("struck at 7, known at 6", x.duty(0, 6), 5);
        CHECK.due("not known at 7", x.duty(0, 7), 50);
        CHECK.due("the second scale at 8", x.duty(0, 8), 40);
        CHECK.due("the furthest", x.duty(0, 220), 40);
        CHECK.due("a grain without a scale", x.duty(1, 8), 0);
    }

    private static void promise14DutyOfHanging() {
        CornLaws x = new CornLaws();
        x.sale(0, 1, 0, 1, 90);
        x.sale(0, 0, 0, 1, 10);
        x.scale(0, 0);
        x.step(0, 0, 1000);
        x.step(0, 50, 500);
        x.scale(1, 0);
        x.step(1, 0, 8);
        x.hang(0, 1, 1, 3);
        CHECK.due("8 by 3, cut, whatever its own scale", x.duty(0, 6), 2);
        x.unhang(0);
        x.hang(1, 0, 99, 100);
        CHECK.due("by the other's average, not its own", x.duty(1, 6), 990);
        x.hang(1, 0, 100, 100);
        CHECK.due("in full", x.duty(1, 6), 1000);
        x.hang(1, 2, 100, 1);
        CHECK.due("on one without a scale", x.duty(1, 6), 0);
        CornLaws most = new CornLaws();
        most.scale(2, 0);
        most.step(0, 0, 2000);
        most.hang(0, 2, 100, 1);
        CHECK.due("the greatest duty", most.duty(0, 0), 200000);
    }
}
