/** Promises 1 to 8 and 25: a new object, weeks, returns and their averages, counts. */
public final class ReturnsTest {
    private static final int LEAST = Integer.MIN_VALUE;
    private static final int MOST = Integer.MAX_VALUE;
    private static final Check CHECK = new Check();

    public static void main(String[] args) {
        constants();
        promise1NewObject();
        promise2Weeks();
        promise3Sale();
        promise3SaleFull();
        promise4Strike();
        promise5Sold();
        promise6Weekly();
        promise6WeeklyAsKnownThen();
        promise7Average();
        promise7AverageCutsTwice();
        promise8Towns();
        promise25Count();
        CHECK.end();
    }

    private static void constants() {
        CHECK.due("NONE", CornLaws.NONE, -1);
        CHECK.due("BAD", CornLaws.BAD, -2);
        CHECK.due("NOT", CornLaws.NOT, -3);
        CHECK.due("FULL", CornLaws.FULL, -4);
    }

    private static void promise1NewObject() {
        CornLaws x = new CornLaws();
        for (int what = 0; what <= 5; what++) {
            CHECK.due("new: count(" + what + ")", x.count(what), 0);
        }
        CHECK.due("new: chest()", x.chest(), 0);
        for (int grain = 0; grain < 3; grain++) {
            CHECK.due("new: weekly", x.weekly(grain, 0, 0), -1);
            CHECK.due("new: average", x.average(grain, 6), -1);
            CHECK.due("new: force", x.force(grain, 0), -1);
            CHECK.due("new: duty", x.duty(grain, 0), 0);
            CHECK.due("new: unhang", x.unhang(grain), -3);
        }
        CHECK.due("new: towns", x.towns(0, 0), 0);
        CHECK.due("new: sold(0, 0)", x.sold(0, 0), -2);
        CHECK.due("new: bond(0, 0)", x.bond(0, 0), -2);
        CHECK.due("new: other(0)", x.other(0), -2);
        CHECK.due("new: spoil(0) was", x.spoil(0), 0);
        CornLaws told = new CornLaws();
        told.sale(0, 0, 0, 1, 1);
        told.weeks(3);
        CHECK.due("one object tells another nothing", new CornLaws().count(1), 0);
    }

    private static void promise2Weeks() {
        CornLaws x = new CornLaws();
        CHECK.due("weeks(1)", x.weeks(1), 1);
        CHECK.due("weeks(20)", x.weeks(20), 21);
        CHECK.due("weeks(7)", x.weeks(7), 28);
        for (int n : new int[] {0, 21, -1, LEAST, MOST}) {
            CHECK.due("weeks(" + n + ")", x.weeks(n), -2);
        }
        CHECK.due("week unmoved", x.count(0), 28);
    }

    private static void promise3Sale() {
        CornLaws x = new CornLaws();
        x.weeks(4);
        CHECK.due("sale in time", x.sale(0, 0, 4, 1, 1), 0);
        CHECK.due("sale late", x.sale(9, 2, 0, 1000, 2000), 1);
        CHECK.due("the same once more", x.sale(9, 2, 0, 1000, 2000), 2);
        CHECK.due("count(1)", x.count(1), 3);
    }

    private static void promise3SaleFull() {
        CornLaws x = new CornLaws();
        for (int k = 0; k < 60; k++) {
            CHECK.due("sale " + k, x.sale(k % 10, 1, 0, 1000, 2000), k);
        }
        CHECK.due("sale 60", x.sale(0, 1, 0, 1000, 2000), -4);
        CHECK.due("BAD comes before FULL", x.sale(0, 1, 1, 1000, 2000), -2);
        CHECK.due("60 are told", x.count(1), 60);
        CHECK.due("the greatest sums", x.weekly(1, 0, 0), 2000);
        x.strike(0);
        CHECK.due("a struck one leaves no room", x.sale(0, 1, 0, 1000, 2000), -4);
    }

    private static void promise4Strike() {
        CornLaws x = new CornLaws();
        x.sale(0, 0, 0, 1, 10);
        x.sale(0, 0, 0, 1, 20);
        CHECK.due("strike(2)", x.strike(2), -2);
        CHECK.due("strike(-1)", x.strike(-1), -2);
        CHECK.due("strike least", x.strike(LEAST), -2);
        CHECK.due("strike most", x.strike(MOST), -2);
        CHECK.due("none is struck", x.count(2), 0);
        x.weeks(3);
        CHECK.due("strike(1)", x.strike(1), 1);
        CHECK.due("when struck", x.sold(1, 6), 3);
        x.weeks(1);
        CHECK.due("strike(1) again", x.strike(1), -3);
        CHECK.due("when struck, still", x.sold(1, 6), 3);
        CHECK.due("strike(0)", x.strike(0), 1);
        CHECK.due("both are struck", x.count(2), 2);
    }

    private static void promise5Sold() {
        CornLaws x = new CornLaws();
        x.weeks(7);
        x.sale(8, 2, 5, 300, 77);
        x.sale(1, 0, 7, 4, 1500);
        x.weeks(2);
        x.strike(1);
        long[][] due = {{8, 2, 5, 300, 77, 7, -1}, {1, 0, 7, 4, 1500, 7, 9}};
        for (int k = 0; k < 2; k++) {
            for (int what = 0; what < 7; what++) {
                CHECK.due("sold(" + k + ", " + what + ")", x.sold(k, what), due[k][what]);
            }
            for (int what : new int[] {-1, 7, LEAST, MOST}) {
                CHECK.due("sold(" + k + ", " + what + ")", x.sold(k, what), -2);
            }
        }
        for (int k : new int[] {-1, 2, LEAST, MOST}) {
            CHECK.due("sold(" + k + ", 0)", x.sold(k, 0), -2);
        }
    }

    private static void promise6Weekly() {
        CornLaws x = new CornLaws();
        x.weeks(5);
        x.sale(0, 0, 2, 3, 10);
        x.sale(1, 0, 2, 4, 11);
        x.sale(2, 0, 4, 1, 99);
        x.sale(3, 1, 3, 1, 55);
        CHECK.due("none ahead of the first", x.weekly(0, 1, 5), -1);
        CHECK.due("74 by 7, cut", x.weekly(0, 2, 5), 10);
        CHECK.due("a week without takes the one before", x.weekly(0, 3, 5), 10);
        CHECK.due("a week with its own", x.weekly(0, 4, 5), 99);
        CHECK.due("weeks to come take the last", x.weekly(0, 200, 5), 99);
        CHECK.due("another grain", x.weekly(1, 3, 5), 55);
        CHECK.due("another grain, two weeks on", x.weekly(1, 5, 5), 55);
        CHECK.due("a grain without", x.weekly(2, 5, 5), -1);
        CHECK.due("an earlier week told later", x.sale(4, 0, 0, 1, 5), 4);
        CHECK.due("does not stand before a later one", x.weekly(0, 3, 5), 10);
        CHECK.due("but before none", x.weekly(0, 1, 5), 5);
    }

    private static void promise6WeeklyAsKnownThen() {
        CornLaws x = new CornLaws();
        x.weeks(2);
        x.sale(0, 0, 1, 10, 30);
        x.weeks(2);
        x.sale(1, 0, 2, 10, 50);
        x.weeks(2);
        x.strike(1);
        x.sale(2, 0, 2, 10, 80);
        x.strike(2);
        CHECK.due("before it is sworn", x.weekly(0, 2, 1), -1);
        CHECK.due("from when it is sworn", x.weekly(0, 2, 2), 30);
        CHECK.due("before the second is sworn", x.weekly(0, 2, 3), 30);
        CHECK.due("from when the second is sworn", x.weekly(0, 2, 4), 50);
        CHECK.due("before the second is struck", x.weekly(0, 2, 5), 50);
        CHECK.due("from when it is struck", x.weekly(0, 2, 6), 30);
        CHECK.due("as known later than THE WEEK", x.weekly(0, 2, 200), 30);
        CHECK.due("struck when sworn: never known", x.weekly(0, 2, 6), 30);
    }

    private static void promise7Average() {
        CornLaws x = new CornLaws();
        int[] prices = {10, 20, 30, 40, 50, 60, 70, 87};
        for (int price : prices) {
            x.sale(0, 0, x.count(0), 1, price);
            x.weeks(1);
        }
        CHECK.due("week -1 is none", x.average(0, 5), -1);
        CHECK.due("210 by six", x.average(0, 6), 35);
        CHECK.due("the week itself is left out", x.average(0, 7), 45);
        CHECK.due("337 by six, cut", x.average(0, 8), 56);
        CHECK.due("weeks to come repeat the last: 354 and 87", x.average(0, 9), 65);
        CHECK.due("the furthest", x.average(0, 220), 87);
        CHECK.due("another grain", x.average(1, 8), -1);
    }

    private static void promise7AverageCutsTwice() {
        CornLaws x = new CornLaws();
        for (int week = 0; week < 6; week++) {
            x.sale(0, 0, week, 1, 11);
            x.sale(1, 0, week, 2, 12);
            x.weeks(1);
        }
        // Weeklies of 11 (of 11.67) and 13 (of 13.25): uncut they would make 12 at 7.
        x.sale(2, 0, 5, 1, 18);
        CHECK.due("weekly of week 5: 53 by 4", x.weekly(0, 5, 6), 13);
        CHECK.due("68 by six, cut", x.average(0, 6), 11);
        CHECK.due("70 by six of cut weeklies", x.average(0, 7), 11);
        CHECK.due("72 by six", x.average(0, 8), 12);
        x.sale(3, 0, 0, 1, 2000);
        CHECK.due("as known at 6, sworn at 6: 508 + 57", x.average(0, 6), 94);
        x.weeks(1);
        x.strike(x.sale(4, 0, 1, 1, 2000));
        CHECK.due("struck when sworn counts nowhere", x.average(0, 7), 11);
    }

    private static void promise8Towns() {
        CornLaws x = new CornLaws();
        x.weeks(3);
        x.sale(0, 0, 1, 1, 1);
        x.sale(0, 1, 1, 1, 1);
        x.sale(9, 2, 1, 1, 1);
        x.sale(5, 0, 2, 1, 1);
        x.weeks(1);
        x.sale(4, 0, 1, 1, 1);
        x.weeks(1);
        x.strike(0);
        x.strike(2);
        CHECK.due("before any is sworn", x.towns(1, 2), 0);
        CHECK.due("a town counts once, any grain", x.towns(1, 3), 2);
        CHECK.due("one more is sworn", x.towns(1, 4), 3);
        CHECK.due("one return of a town is left", x.towns(1, 5), 2);
        CHECK.due("another week", x.towns(2, 5), 1);
        CHECK.due("a week without does not look back", x.towns(3, 5), 0);
        CHECK.due("the furthest", x.towns(200, 200), 0);
        for (int wrong : new int[] {-1, 201, LEAST, MOST}) {
            CHECK.due("towns for week " + wrong, x.towns(wrong, 0), -2);
            CHECK.due("towns at " + wrong, x.towns(0, wrong), -2);
        }
        CornLaws all = new CornLaws();
        for (int town = 0; town < 10; town++) {
            all.sale(town, town % 3, 0, 1, 1);
        }
        CHECK.due("all towns", all.towns(0, 0), 10);
    }

    private static void promise25Count() {
        CornLaws x = new CornLaws();
        x.weeks(9);
        for (int k = 0; k < 5; k++) {
            x.sale(0, 0, 0, 1, 1);
        }
        x.strike(1);
        x.strike(3);
        for (int s = 0; s < 4; s++) {
            x.scale(0, 9);
        }
        for (int c = 0; c < 7; c++) {
            x.cargo(0, 10);
        }
        x.letOut(0, 1);
        x.letOut(0, 1);
        x.letOut(1, 1);
        x.ship(2, 1);
        x.letOut(2, 11);
        long[] due = {9, 5, 2, 4, 7, 3};
        for (int what = 0; what < 6; what++) {
            CHECK.due("count(" + what + ")", x.count(what), due[what]);
        }
        for (int what : new int[] {-1, 6, LEAST, MOST}) {
            CHECK.due("count(" + what + ")", x.count(what), -2);
        }
    }
}
