/** Promises 15 to 20: cargoes, spoiling, letting out, shipping, the chest. */
public final class BondTest {
    private static final int LEAST = Integer.MIN_VALUE;
    private static final int MOST = Integer.MAX_VALUE;
    private static final Check CHECK = new Check();

    public static void main(String[] args) {
        promise15Cargo();
        promise16Spoil();
        promise16SpoilEachWeek();
        promise17LetOut();
        promise18Ship();
        promise19Bond();
        promise20Chest();
        CHECK.end();
    }

    /** A grain 0 with a duty of 9 at all weeks. */
    private static CornLaws withDutyOf9() {
        CornLaws x = new CornLaws();
        x.scale(0, 0);
        x.step(0, 0, 9);
        return x;
    }

    private static void promise15Cargo() {
        CornLaws x = new CornLaws();
        for (int wrong : new int[] {-1, 3, LEAST, MOST}) {
            CHECK.due("cargo of grain " + wrong, x.cargo(wrong, 1), -2);
        }
        for (int wrong : new int[] {0, -1, 10001, LEAST, MOST}) {
            CHECK.due("cargo of " + wrong, x.cargo(0, wrong), -2);
        }
        CHECK.due("none was told", x.count(4), 0);
        CHECK.due("the least", x.cargo(0, 1), 0);
        x.weeks(2);
        CHECK.due("the most", x.cargo(2, 10000), 1);
        CHECK.due("when it came", x.bond(1, 5), 2);
    }

    private static void promise16Spoil() {
        CornLaws x = new CornLaws();
        CHECK.due("0 at first", x.spoil(100), 0);
        for (int wrong : new int[] {-1, 101, LEAST, MOST}) {
            CHECK.due("spoil(" + wrong + ")", x.spoil(wrong), -2);
        }
        CHECK.due("100 still", x.spoil(0), 100);
        CHECK.due("0 again", x.spoil(7), 0);
    }

    private static void promise16SpoilEachWeek() {
        CornLaws x = new CornLaws();
        x.cargo(0, 1000);
        x.cargo(1, 19);
        x.weeks(5);
        CHECK.due("no spoiling at first", x.bond(0, 1), 1000);
        x.spoil(50);
        CHECK.due("telling spoils nothing", x.bond(0, 1), 1000);
        x.weeks(3);
        x.cargo(2, 100);
        // 1000, less 50, 47 (of 47.5), 45 (of 45.15)
        CHECK.due("three weeks", x.bond(0, 1), 858);
        CHECK.due("what spoilt", x.bond(0, 4), 142);
        CHECK.due("less than one is cut to none", x.bond(1, 1), 19);
        CHECK.due("one that comes is whole", x.bond(2, 1), 100);
        x.spoil(0);
        x.weeks(20);
        CHECK.due("spoiling ends", x.bond(0, 1), 858);
        x.spoil(100);
        x.ship(0, 848);
        x.weeks(1);
        CHECK.due("only what is in bond spoils", x.bond(0, 4), 143);
        CHECK.due("in bond", x.bond(0, 1), 9);
        x.weeks(1);
        CHECK.due("under ten nothing spoils", x.bond(0, 1), 9);
        x.cargo(0, 9990);
        x.weeks(1);
        CHECK.due("100 thousandths of 9990", x.bond(3, 4), 999);
    }

    private static void promise17LetOut() {
        CornLaws x = withDutyOf9();
        x.cargo(0, 100);
        x.cargo(1, 100);
        CHECK.due("30 at 9", x.letOut(0, 30), 270);
        CHECK.due("in bond", x.bond(0, 1), 70);
        CHECK.due("let out", x.bond(0, 2), 30);
        CHECK.due("without a scale free", x.letOut(1, 5), 0);
        CHECK.due("free ones are lettings too", x.count(5), 2);
        x.hang(1, 0, 5, 2);
        CHECK.due("3 at 22", x.letOut(1, 3), 66);
        CHECK.due("the rest", x.letOut(0, 70), 630);
        CHECK.due("none is left", x.letOut(0, 1), -3);
        x.scale(0, 0);
        x.step(1, 0, 2000);
        x.hang(2, 0, 100, 1);
        x.cargo(2, 10000);
        CHECK.due("the greatest payment", x.letOut(2, 10000), 2000000000L);
        CHECK.due("the chest", x.chest(), 2000000966L);
    }

    private static void promise18Ship() {
        CornLaws x = withDutyOf9();
        x.cargo(0, 100);
        for (int wrong : new int[] {-1, 1, LEAST, MOST}) {
            CHECK.due("ship of cargo " + wrong, x.ship(wrong, 1), -2);
        }
        for (int wrong : new int[] {0, -1, 10001, LEAST, MOST}) {
            CHECK.due("ship of " + wrong, x.ship(0, wrong), -2);
        }
        CHECK.due("one too many", x.ship(0, 101), -3);
        CHECK.due("nothing was shipped", x.bond(0, 3), 0);
        CHECK.due("nothing has left", x.bond(0, 1), 100);
        CHECK.due("40 of 100", x.ship(0, 40), 60);
        CHECK.due("25 more", x.ship(0, 25), 35);
        CHECK.due("shipped", x.bond(0, 3), 65);
        CHECK.due("the rest", x.ship(0, 35), 0);
        CHECK.due("none is left", x.ship(0, 1), -3);
        CHECK.due("it is free", x.chest(), 0);
        CHECK.due("and no letting out", x.count(5), 0);
    }

    private static void promise19Bond() {
        CornLaws x = new CornLaws();
        x.weeks(3);
        x.cargo(2, 500);
        x.cargo(1, 70);
        x.letOut(0, 70);
        x.letOut(0, 30);
        x.ship(0, 60);
        x.spoil(10);
        x.weeks(2);
        // 340, less 3 (of 3.4), 3 (of 3.37); 70 loses nothing
        long[][] due = {{2, 334, 100, 60, 6, 3}, {1, 70, 0, 0, 0, 3}};
        for (int cargo = 0; cargo < 2; cargo++) {
            for (int what = 0; what < 6; what++) {
                CHECK.due("bond(" + cargo + ", " + what + ")", x.bond(cargo, what), due[cargo][what]);
            }
            for (int what : new int[] {-1, 6, LEAST, MOST}) {
                CHECK.due("bond(" + cargo + ", " + what + ")", x.bond(cargo, what), -2);
            }
        }
        for (int cargo : new int[] {-1, 2, LEAST, MOST}) {
            CHECK.due("bond(" + cargo + ", 0)", x.bond(cargo, 0), -2);
        }
    }

    private static void promise20Chest() {
        CornLaws x = new CornLaws();
        x.scale(0, 0);
        x.step(0, 0, 2000);
        x.hang(1, 0, 100, 1);
        long due = 0;
        for (int c = 0; c < 20; c++) {
            x.cargo(1, 10000);
            x.letOut(c, 10000);
            due += 2000000000L;
            CHECK.due("chest()", x.chest(), due);
        }
        x.unhang(1);
        x.scale(1, 0);
        x.step(1, 0, 1);
        CHECK.due("what is paid stays paid", x.chest(), 40000000000L);
    }
}
