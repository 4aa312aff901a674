/** Promises 19 to 27: teams, calls, jobs. Numbers are worked out by hand from the document. */
final class TeamsTest {
    private static final long ALL = 1L << 40;

    public static void main(String[] args) {
        team();
        place();
        whomRefuses();
        whomByWay();
        whomByAlive();
        whomByDarkAndDew();
        whomTogether();
        bound();
        again();
        againLine();
        againOfLikeOnes();
        againOfAll();
        call();
        callByEach();
        truly();
        job();
        orderRefuses();
        orderByAlive();
        orderByDarkAndDew();
        orderOfSix();
        Check.close();
    }

    private static SheGoesOut outAt(int cell) {
        SheGoesOut x = new SheGoesOut();
        x.start(cell, 0);
        return x;
    }

    private static void team() {
        SheGoesOut x = new SheGoesOut();
        Check.due("P19 sort", x.team(4, 0, 1), -1);
        Check.due("P19 sort", x.team(-1, 0, 1), -1);
        Check.due("P19 cell", x.team(0, 144, 1), -1);
        Check.due("P19 cell", x.team(0, -1, 1), -1);
        Check.due("P19 pace", x.team(0, 0, 0), -1);
        Check.due("P19 pace", x.team(0, 0, 10), -1);
        Check.due("P19", x.team(0, 0, 1), 0);
        Check.due("P19", x.team(3, 143, 9), 1);
        Check.due("P19", x.team(1, 0, 1), 2);
        Check.due("P19", x.team(1, 0, 1), 3);
        Check.due("P19 full", x.team(1, 0, 1), -3);
        Check.due("P19 it counts", x.status(2), 1);
        Check.due("P19 BAD first", x.team(1, 0, 10), -1);
        Check.due("P19", x.count(1), 4);
    }

    private static void place() {
        SheGoesOut x = new SheGoesOut();
        Check.due("P20 cell", x.place(-1), -1);
        Check.due("P20 cell", x.place(144), -1);
        Check.due("P20", x.place(0), 0);
        Check.due("P20 is one", x.place(0), -2);
        Check.due("P20", x.place(143), 1);
        for (int i = 2; i < 6; i++) Check.due("P20", x.place(i), i);
        Check.due("P20 full", x.place(100), -3);
        Check.due("P20 FULL ahead of NOT", x.place(0), -3);
        Check.due("P20 they count", x.status(2), 2);
        Check.due("P20 it counts", x.status(1), 1);
        Check.due("P20 BAD first", x.place(144), -1);
        Check.due("P20", x.count(2), 6);
    }

    private static void whomRefuses() {
        SheGoesOut x = new SheGoesOut();
        Check.due("P21 BAD first", x.whom(-2), -1);
        Check.due("P21 BAD first", x.whom(4), -1);
        Check.due("P21 NOT ahead of NONE", x.whom(0), -2);
        x.start(0, 0);
        Check.due("P21 no TEAM", x.whom(-1), -4);
        Check.due("P21 no TEAM", x.whom(0), -4);
        x.team(0, 0, 1);
        x.team(0, 0, 1);
        Check.due("P21 no PLACE", x.whom(-1), 0);
        Check.due("P21 none", x.whom(0), 6);
        Check.due("P21 none", x.whom(1), 6);
        Check.due("P21 no TEAM 2", x.whom(2), -4);
        Check.due("P21 no TEAM 3", x.whom(3), -4);
    }

    private static void whomByWay() {
        SheGoesOut x = outAt(27);
        x.set(8, 999);
        x.place(27);
        x.team(0, 27, 9);
        Check.due("P21 there", x.whom(-1), ALL * 12 / 16 * 1000);
        Check.due("P21 there", x.whom(0), 0);
        x.place(3);
        Check.due("P21 still", x.whom(0), 0);
    }

    private static void whomByAlive() {
        SheGoesOut x = outAt(27);
        x.set(6, 0);
        x.set(7, 9);
        x.place(27);
        // From 11, 11 to 2, 3: 9 rows and 8 columns, 68 MINUTES; alive to 60, then 11 less each.
        x.team(1, 143, 4);
        Check.due("P21 alive then", x.whom(-1), ALL * 12 / 16 * 912);
        Check.due("P21 bound, too", x.bound(), ALL * 12 / 16 * 912);
        x.clear();
        x.place(27);
        x.team(1, 143, 9);
        Check.due("P21 too late", x.whom(-1), 0);
        Check.due("P21 too late: the first row", x.whom(0), 0);
    }

    private static void whomByDarkAndDew() {
        SheGoesOut x = outAt(27);
        x.kind(27, 2);
        x.place(27);
        x.team(0, 27, 2);
        x.team(0, 39, 2);
        x.set(8, 2);
        Check.due("P21 before it is dark", x.whom(-1), ALL * 6 / 16 * 1000);
        Check.due("P21 the nearer", x.whom(0), 0);
        Check.due("P21 the other goes nowhere", x.whom(1), 6);
        Check.due("P22 dark for the other", x.bound(), ALL * 6 / 16 * 1000 + ALL * 3 / 16 * 1000);
        x.set(8, 3);
        Check.due("P22 dark for none", x.bound(), 2 * (ALL * 6 / 16 * 1000));
        Check.due("P21 of like ones the first row", x.whom(0), 0);
        x.clear();
        x.place(27);
        x.team(1, 39, 5);
        x.set(9, 5);
        Check.due("P21 dew", x.whom(-1), ALL * 6 / 16 * 1000);
        x.set(9, 6);
        Check.due("P21 no dew", x.whom(-1), ALL * 12 / 16 * 1000);
    }

    private static void whomTogether() {
        SheGoesOut x = outAt(0);
        x.night(1);
        // CELL 1 a half, CELL 12 a quarter (both go), CELL 0 a quarter (sits).
        x.team(1, 0, 1);
        x.team(3, 0, 1);
        x.place(1);
        x.place(12);
        x.kind(1, 7);
        x.kind(12, 2);
        long dogThere = x.parts(1, 5) * 12 / 16;
        long askersThere = x.parts(1, 5) * 10 / 16;
        long dogInWood = x.parts(12, 5) * 12 / 16;
        long askersInWood = x.parts(12, 5) * 2 / 16;
        Check.holds("P21 the dog to the wood", askersThere + dogInWood > dogThere + askersInWood);
        Check.due("P21 together", x.whom(-1), (askersThere + dogInWood) * 1000);
        Check.due("P21 dog", x.whom(0), 1);
        Check.due("P21 askers", x.whom(1), 0);
        Check.due("P22", x.bound(), (dogThere + askersThere) * 1000);
        x.team(2, 0, 1);
        x.place(100);
        Check.due("P21 a third to what is left", x.whom(2), 2);
        x.clear();
        for (int i = 0; i < 4; i++) x.team(1, 0, 1);
        x.place(100);
        x.place(1);
        Check.due("P21 like ones: first row", x.whom(0), 0);
        Check.due("P21 like ones: first row", x.whom(1), 1);
        Check.due("P21 like ones: first row", x.whom(2), 6);
        Check.due("P21 like ones: first row", x.whom(3), 6);
        Check.due("P21 once", x.whom(-1), dogThere * 1000);
        Check.due("P22 four times", x.bound(), 4 * dogThere * 1000);
    }

    private static void bound() {
        SheGoesOut x = new SheGoesOut();
        x.team(0, 0, 1);
        Check.due("P22 NOT", x.bound(), -2);
        x.clear();
        x.start(0, 0);
        Check.due("P22 NONE", x.bound(), -4);
        x.team(1, 0, 1);
        Check.due("P22 no PLACE", x.bound(), 0);
        x.place(5);
        Check.due("P22 nothing there", x.bound(), 0);
        x.place(0);
        Check.due("P22", x.bound(), ALL * 12 / 16 * 1000);
    }

    private static void again() {
        SheGoesOut x = new SheGoesOut();
        Check.due("P23 sort", x.again(4, 0), -1);
        Check.due("P23 sort", x.again(-1, 0), -1);
        Check.due("P23 what", x.again(0, 2), -1);
        Check.due("P23 what", x.again(0, -1), -1);
        Check.due("P23 NOT", x.again(0, 0), -2);
        x.start(20, 0);
        Check.due("P23 NONE", x.again(0, 0), -4);
        Check.due("P23 NONE", x.again(0, 1), -4);
        x.search(3, 30);
        x.search(3, 25);
        Check.due("P23 of like ones the first", x.again(0, 0), 25);
        Check.due("P23 more elsewhere", x.again(0, 1), 0);
        x.search(3, 20);
        Check.due("P23 most", x.again(0, 0), 20);
        Check.due("P23 worth it", x.again(0, 1), 1);
    }

    private static void againLine() {
        SheGoesOut x = outAt(0);
        x.night(1);
        x.set(8, 999);
        // CELL 1 a half, CELL 12 a quarter, CELL 0 a quarter that sits.
        x.search(2, 143);
        Check.due("P23 nothing there", x.again(1, 0), 143);
        Check.due("P23 0 is not more", x.again(1, 1), 0);
        x.search(0, 1);
        // A half less 12 sixteenths: an eighth; less than a quarter.
        Check.due("P23", x.again(1, 0), 1);
        Check.due("P23 less", x.again(1, 1), 0);
        // 12 sixteenths of a quarter by a dog; in CELL 12 EYES see 14 of a quarter.
        x.search(3, 12);
        Check.due("P23 most now", x.again(2, 0), 12);
        Check.due("P23 more in one not SEARCHED", x.again(2, 1), 0);
        // Of those that sit ASKERS see none: so CELL 0 has nothing for them.
        Check.due("P23 more than in any other", x.again(3, 1), 1);
        x.kind(12, 3);
        Check.due("P23 a dog sees no WALL", x.again(1, 0), 1);
    }

    private static void againOfLikeOnes() {
        SheGoesOut x = outAt(0);
        x.night(1);
        // CELLS 0 and 12 a quarter each; CELL 1 becomes a WALL, of which nothing is seen.
        x.kind(1, 3);
        x.kind(12, 3);
        x.search(1, 12);
        x.kind(12, 0);
        Check.due("P23", x.again(1, 0), 12);
        Check.due("P23 as many are not more", x.again(1, 1), 0);
        x.search(3, 0);
        Check.due("P23 ASKERS saw none that sit", x.again(1, 0), 0);
        Check.due("P23", x.again(1, 1), 1);
    }

    private static void againOfAll() {
        SheGoesOut x = outAt(77);
        for (int cell = 0; cell < 144; cell++) x.search(3, cell);
        Check.due("P23", x.again(1, 0), 77);
        Check.due("P23 none is not SEARCHED", x.again(1, 1), 1);
    }

    private static void call() {
        SheGoesOut x = new SheGoesOut();
        Check.due("P24 NOT", x.call(0, 0, 0), -2);
        Check.due("P24", x.call(-1, 0, 0), -1);
        Check.due("P24", x.call(144, 0, 0), -1);
        Check.due("P24", x.call(0, -1, 0), -1);
        Check.due("P24", x.call(0, 10, 0), -1);
        Check.due("P24", x.call(0, 0, -1), -1);
        Check.due("P24", x.call(0, 0, 16), -1);
        x.start(60, 0);
        Check.due("P24 no trust", x.call(143, 0, 0), 1000);
        Check.due("P24 near", x.call(73, 1, 15), 1000);
        Check.due("P24 columns far", x.call(69, 8, 4), 750);
        Check.due("P24", x.parts(60, 0), ALL * 12 / 16);
        Check.due("P24 columns near enough", x.call(69, 9, 4), 1000);
        Check.due("P24 rows far", x.call(0, 4, 8), 500);
        Check.due("P24 rows near enough", x.call(0, 5, 8), 1000);
        Check.due("P24 of what is left", x.call(143, 0, 15), 62);
        for (int i = 0; i < 12; i++) x.call(143, 0, 15);
        Check.due("P24 NONE", x.call(0, 0, 0), -4);
    }

    private static void callByEach() {
        SheGoesOut x = outAt(65);
        x.night(5);
        long all = 0;
        long[] were = new long[144 * 5];
        for (int i = 0; i < were.length; i++) {
            were[i] = x.parts(i / 5, i % 5);
            all += were[i];
        }
        long left = 0;
        for (int i = 0; i < were.length; i++) {
            int cell = i / 5;
            boolean near = cell / 12 >= 4 && cell / 12 <= 6 && cell % 12 >= 5 && cell % 12 <= 7;
            left += near ? were[i] : were[i] * 9 / 16;
        }
        Check.due("P24 each by itself", x.call(66, 1, 7), left * 1000 / all);
        for (int i = 0; i < were.length; i++) {
            int cell = i / 5;
            boolean near = cell / 12 >= 4 && cell / 12 <= 6 && cell % 12 >= 5 && cell % 12 <= 7;
            Check.due("P24 part " + i, x.parts(cell, i % 5), near ? were[i] : were[i] * 9 / 16);
        }
    }

    private static void truly() {
        SheGoesOut x = new SheGoesOut();
        Check.due("P25 NOT", x.truly(0, 0, 0, 0), -2);
        Check.due("P25", x.truly(-1, 0, 0, 0), -1);
        Check.due("P25", x.truly(144, 0, 0, 0), -1);
        Check.due("P25", x.truly(0, -1, 0, 0), -1);
        Check.due("P25", x.truly(0, 10, 0, 0), -1);
        Check.due("P25", x.truly(0, 0, -1, 0), -1);
        Check.due("P25", x.truly(0, 0, 16, 0), -1);
        Check.due("P25", x.truly(0, 0, 0, -1), -1);
        Check.due("P25", x.truly(0, 0, 0, 2), -1);
        x.start(0, 0);
        Check.due("P25 no trust", x.truly(0, 9, 0, 0), 0);
        Check.due("P25 no trust", x.truly(0, 9, 0, 1), 1);
        Check.due("P25 not there", x.truly(143, 9, 15, 0), 0);
        Check.due("P25 not there", x.truly(143, 9, 15, 1), 1);
        // 8 times 144 by that and 8 times 4 CELLS (a corner): 144 by 148.
        Check.due("P25 corner", x.truly(0, 1, 8, 0), 36);
        Check.due("P25 corner", x.truly(0, 1, 8, 1), 37);
        // The last corner hears as the first does.
        x.start(132, 0);
        Check.due("P25 corner", x.truly(132, 1, 8, 0), 36);
        Check.due("P25 corner", x.truly(132, 1, 8, 1), 37);
        x.start(0, 0);
        // 15 times 144 by that and 1 times 9 CELLS: 240 by 241.
        Check.due("P25", x.truly(13, 1, 15, 0), 240);
        Check.due("P25", x.truly(13, 1, 15, 1), 241);
        x.night(1);
        // NEAR: CELL 1, a half; 1 times 4 times 144 by that and 2 times 12 times 1 CELL: 576 by 600.
        Check.due("P25 near", x.truly(1, 0, 4, 0), 24);
        Check.due("P25 near", x.truly(1, 0, 4, 1), 25);
        for (int i = 0; i < 12; i++) x.call(143, 0, 15);
        Check.due("P25 NONE", x.truly(0, 0, 1, 0), -4);
    }

    private static void job() {
        SheGoesOut x = new SheGoesOut();
        Check.due("P26", x.job(-1, 0, 1), -1);
        Check.due("P26", x.job(144, 0, 1), -1);
        Check.due("P26", x.job(0, 4, 1), -1);
        Check.due("P26", x.job(0, -1, 1), -1);
        Check.due("P26", x.job(0, 0, 0), -1);
        Check.due("P26", x.job(0, 0, 61), -1);
        for (int i = 0; i < 6; i++) Check.due("P26", x.job(143, 3, 60), i);
        Check.due("P26 full", x.job(0, 0, 1), -3);
        Check.due("P26 it counts", x.status(2), 1);
        Check.due("P26 BAD first", x.job(0, 0, 61), -1);
        Check.due("P26", x.count(3), 6);
    }

    private static void orderRefuses() {
        SheGoesOut x = new SheGoesOut();
        Check.due("P27", x.order(-2), -1);
        Check.due("P27", x.order(6), -1);
        Check.due("P27 NOT ahead of NONE", x.order(0), -2);
        x.start(0, 0);
        Check.due("P27 no JOB", x.order(-1), -4);
        Check.due("P27 no JOB", x.order(0), -4);
        x.job(5, 0, 1);
        x.job(5, 0, 1);
        Check.due("P27 nothing", x.order(-1), 0);
        Check.due("P27 of like ones the first", x.order(0), 0);
        Check.due("P27 of like ones the first", x.order(1), 1);
        Check.due("P27 no third", x.order(2), -4);
        Check.due("P27 no sixth", x.order(5), -4);
    }

    private static void orderByAlive() {
        SheGoesOut x = outAt(0);
        x.set(6, 0);
        x.set(7, 9);
        // Alive to 60, then 11 less each. JOB 1 finds nothing, so it comes last.
        x.job(0, 2, 40);
        x.job(9, 2, 60);
        x.job(0, 1, 50);
        // EYES 14 at 40, a dog 12 at 90: 14000 and 12 times 670; or a dog at 50, EYES at 90: 12000 and 14 times 670.
        Check.due("P27", x.order(-1), ALL / 16 * (14 * 1000 + 12 * 670));
        Check.due("P27", x.order(0), 0);
        Check.due("P27", x.order(1), 2);
        Check.due("P27", x.order(2), 1);
        x.clear();
        x.job(0, 1, 60);
        x.job(0, 2, 60);
        // The better ahead: 14 at 60, 12 at 120 (1000 less 660).
        Check.due("P27", x.order(-1), ALL / 16 * (14 * 1000 + 12 * 340));
        Check.due("P27", x.order(0), 1);
        Check.due("P27", x.order(1), 0);
    }

    private static void orderByDarkAndDew() {
        SheGoesOut x = outAt(0);
        x.job(0, 0, 10);
        x.job(0, 1, 10);
        x.set(8, 5);
        x.set(9, 10);
        // Walkers, then a dog in the dew: 12 and 6; a dog, then walkers in the dark: 12 and 6.
        Check.due("P27 as of when it begins", x.order(-1), ALL / 16 * 18 * 1000);
        Check.due("P27 the first", x.order(0), 0);
        x.set(8, 0);
        // 6 and 6, or 12 and 6.
        Check.due("P27", x.order(-1), ALL / 16 * 18 * 1000);
        Check.due("P27", x.order(0), 1);
        x.set(9, 11);
        Check.due("P27", x.order(-1), ALL / 16 * 18 * 1000);
        Check.due("P27 the first", x.order(0), 0);
        x.set(8, 11);
        Check.due("P27 neither", x.order(-1), ALL / 16 * 24 * 1000);
        Check.due("P27 PARTS as now", x.parts(0, 5), ALL);
    }

    private static void orderOfSix() {
        SheGoesOut x = outAt(0);
        x.set(6, 0);
        x.set(7, 9);
        int[] minutes = {6, 5, 4, 3, 2, 1};
        x.night(60);
        x.start(0, 0);
        for (int i = 0; i < 6; i++) x.job(0, 2, minutes[i] * 10);
        // All see alike, so the shortest come first: ends at 10, 30, 60, 100, 150, 210.
        Check.due("P27", x.order(-1), ALL / 16 * 14 * (1000 + 1000 + 1000 + 560 + 10 + 0));
        // Of the first three any row is as good: the first stands.
        int[] row = {3, 4, 5, 2, 1, 0};
        for (int i = 0; i < 6; i++) Check.due("P27 row " + i, x.order(i), row[i]);
    }
}
