/** Promises 10 to 18: nights, searches. Numbers are worked out by hand from the document. */
final class NightTest {
    private static final long ALL = 1L << 40;
    private static final int[][] SIXTEENTHS = {
        {12, 14, 6, 0, 8, 4, 14, 10},
        {12, 12, 12, 0, 0, 12, 12, 12},
        {14, 14, 4, 0, 10, 8, 10, 0},
        {2, 8, 2, 0, 0, 2, 12, 10},
    };

    public static void main(String[] args) {
        start();
        startAnew();
        night();
        aMinuteInTheOpen();
        aMinuteBySides();
        aMinuteAtEdges();
        aMinuteByDraw();
        aMinuteWithNoWay();
        tire();
        ride();
        rideAlone();
        parts();
        odds();
        where();
        count();
        sees();
        search();
        searchByEach();
        onePartLeft();
        alive();
        Check.close();
    }

    private static void start() {
        SheGoesOut x = new SheGoesOut();
        Check.due("P10 cell", x.start(-1, 0), -1);
        Check.due("P10 cell", x.start(144, 0), -1);
        Check.due("P10 side", x.start(0, -1), -1);
        Check.due("P10 side", x.start(0, 4), -1);
        x.kind(3, 3);
        x.kind(4, 4);
        Check.due("P10 WALL", x.start(3, 0), -2);
        Check.due("P10 WATER", x.start(4, 0), -2);
        Check.due("P10 BAD first", x.start(3, 4), -1);
        Check.due("P10 not gone out", x.count(0), -4);
        int[] others = {0, 1, 2, 5, 6, 7};
        for (int kind : others) {
            x.kind(9, kind);
            Check.due("P10 kind " + kind, x.start(9, 3), 1);
        }
        Check.due("P10 all", x.parts(9, 3), ALL);
        Check.due("P10 minute", x.count(0), 0);
    }

    private static void startAnew() {
        SheGoesOut x = new SheGoesOut();
        x.start(20, 0);
        x.night(5);
        x.search(1, 20);
        Check.due("P10 anew", x.start(143, 2), 1);
        Check.due("P10 minute 0", x.count(0), 0);
        Check.due("P10 nothing SEARCHED", x.count(6), 0);
        Check.due("P10 nothing SEARCHED", x.told(20, 2), 0);
        Check.due("P10 all of them", x.parts(143, 2), ALL);
        Check.due("P10 none elsewhere", x.parts(20, 5), 0);
        Check.due("P10 none sit", x.where(1), -4);
    }

    private static void night() {
        SheGoesOut x = new SheGoesOut();
        Check.due("P11 NOT", x.night(1), -2);
        Check.due("P11 BAD first", x.night(0), -1);
        x.start(0, 0);
        Check.due("P11 0", x.night(0), -1);
        Check.due("P11 61", x.night(61), -1);
        Check.due("P11 -1", x.night(-1), -1);
        Check.due("P11 1", x.night(1), 1);
        Check.due("P11 60", x.night(60), 61);
        for (int i = 2; i <= 16; i++) Check.due("P11", x.night(60), 1 + 60 * i);
        Check.due("P11 behind 999", x.night(39), -3);
        Check.due("P11 stays", x.count(0), 961);
        Check.due("P11 999", x.night(38), 999);
        Check.due("P11 behind 999", x.night(1), -3);
        Check.due("P11 BAD first", x.night(61), -1);
    }

    private static void aMinuteInTheOpen() {
        SheGoesOut x = new SheGoesOut();
        x.start(27, 1);
        x.night(1);
        // 8 + 3 + 2 + 1, and 1 sits: fifteenths.
        Check.due("P11 ahead", x.parts(28, 1), ALL * 8 / 15);
        Check.due("P11 left", x.parts(15, 0), ALL * 3 / 15);
        Check.due("P11 right", x.parts(39, 2), ALL * 2 / 15);
        Check.due("P11 back", x.parts(26, 3), ALL / 15);
        Check.due("P11 sits", x.parts(27, 4), 73300775186L);
        Check.due("P11 none go there", x.parts(27, 5), 73300775186L);
        Check.due("P11 none otherwise", x.parts(28, 5), ALL * 8 / 15);
        Check.due("P11 nothing is lost", x.odds(0, 1), 1);
        long sum = 0;
        for (int cell = 0; cell < 144; cell++) sum += x.parts(cell, 5);
        Check.due("P11 all", sum, ALL);
    }

    private static void aMinuteBySides() {
        int[] to = {-12, 1, 12, -1};
        for (int side = 0; side < 4; side++) {
            SheGoesOut x = new SheGoesOut();
            x.sits(0, 2);
            x.start(65, side);
            x.night(1);
            int left = (side + 3) % 4;
            int right = (side + 1) % 4;
            int back = (side + 2) % 4;
            Check.due("P11 ahead " + side, x.parts(65 + to[side], side), ALL * 8 / 16);
            Check.due("P11 left " + side, x.parts(65 + to[left], left), ALL * 3 / 16);
            Check.due("P11 right " + side, x.parts(65 + to[right], right), ALL * 2 / 16);
            Check.due("P11 back " + side, x.parts(65 + to[back], back), ALL / 16);
            Check.due("P11 sit " + side, x.parts(65, 4), ALL * 2 / 16);
        }
    }

    private static void aMinuteAtEdges() {
        SheGoesOut x = new SheGoesOut();
        x.start(0, 0);
        x.night(1);
        // Right 2, back 1, sits 1: quarters.
        Check.due("P11 corner right", x.parts(1, 1), ALL / 2);
        Check.due("P11 corner back", x.parts(12, 2), ALL / 4);
        Check.due("P11 corner sits", x.parts(0, 4), ALL / 4);
        Check.due("P11 not round", x.parts(11, 5) + x.parts(132, 5) + x.parts(143, 5), 0);
        x.start(143, 2);
        x.night(1);
        Check.due("P11 corner right", x.parts(142, 3), ALL / 2);
        Check.due("P11 corner back", x.parts(131, 0), ALL / 4);
        Check.due("P11 corner sits", x.parts(143, 4), ALL / 4);
        x.start(23, 1);
        x.kind(11, 4);
        x.sits(0, 3);
        x.night(1);
        // No ahead, WATER on the left: right 2, back 1, sits 3: sixths.
        Check.due("P11 edge right", x.parts(35, 2), ALL * 2 / 6);
        Check.due("P11 edge back", x.parts(22, 3), ALL / 6);
        Check.due("P11 not the next row", x.parts(24, 5), 0);
        Check.due("P11 no WATER", x.parts(11, 5), 0);
        Check.due("P11 cut sits", x.parts(23, 4), ALL - ALL * 2 / 6 - ALL / 6);
    }

    private static void aMinuteByDraw() {
        SheGoesOut x = new SheGoesOut();
        x.draw(64, 9);
        x.draw(66, 2);
        x.draw(65, 9);
        x.kind(53, 3);
        x.draw(53, 9);
        x.kind(65, 2);
        x.start(65, 0);
        x.night(1);
        // Ahead a WALL, left 3 times 10, right 2 times 3, back 1, WOOD sits 3: fortieths.
        Check.due("P11 drawn left", x.parts(64, 3), ALL * 30 / 40);
        Check.due("P11 drawn right", x.parts(66, 1), ALL * 6 / 40);
        Check.due("P11 back", x.parts(77, 2), ALL / 40);
        Check.due("P11 no WALL", x.parts(53, 5), 0);
        Check.due("P11 sits", x.parts(65, 4), ALL - ALL * 30 / 40 - ALL * 6 / 40 - ALL / 40);
    }

    private static void aMinuteWithNoWay() {
        SheGoesOut x = new SheGoesOut();
        x.kind(1, 3);
        x.kind(12, 4);
        x.sits(0, 0);
        x.start(0, 1);
        Check.due("P11", x.night(1), 1);
        Check.due("P11 all sit", x.parts(0, 4), ALL);
        x.night(60);
        Check.due("P11 who sits stays", x.parts(0, 4), ALL);
        x.start(100, 0);
        Check.rules(x, "a0l0r0b0");
        x.night(1);
        Check.due("P11 no will", x.parts(100, 4), ALL);
    }

    /** Two CELLS between which she goes to and fro: 0 in even MINUTES, 1 in odd ones. */
    private static SheGoesOut toAndFro() {
        SheGoesOut x = new SheGoesOut();
        x.kind(2, 3);
        x.kind(12, 3);
        x.kind(13, 3);
        Check.rules(x, "a1l0r0b1");
        x.sits(0, 0);
        x.sits(6, 0);
        x.start(0, 1);
        return x;
    }

    private static void tire() {
        SheGoesOut x = toAndFro();
        x.night(60);
        x.night(60);
        Check.due("P11 none sit yet", x.parts(0, 3), ALL);
        x.night(1);
        Check.due("P11 tired", x.parts(1, 1), ALL / 3);
        Check.due("P11 tired", x.parts(0, 4), ALL - ALL / 3);
        x = toAndFro();
        x.set(4, 0);
        x.night(60);
        x.night(60);
        x.night(1);
        Check.due("P11 not tired", x.parts(1, 1), ALL);
    }

    private static void ride() {
        SheGoesOut x = toAndFro();
        x.kind(1, 6);
        x.kind(90, 6);
        x.kind(0, 6);
        x.night(1);
        // In MINUTE 0 from STOP 0: ahead 1, RIDE 4 to STOP 1.
        Check.due("P11 to the next by numbers", x.parts(1, 1), ALL / 5 + ALL * 4 / 5);
        x = toAndFro();
        x.kind(1, 6);
        x.kind(90, 6);
        x.night(15);
        Check.due("P11 no bus from 0 to 14", x.parts(1, 1), ALL);
        x.night(1);
        Check.due("P11 back", x.parts(0, 3), ALL / 5);
        Check.due("P11 by bus, facing as before", x.parts(90, 1), ALL * 4 / 5);
        Check.due("P11 cut", x.parts(1, 4), ALL - ALL / 5 - ALL * 4 / 5);
        x = new SheGoesOut();
        x.kind(90, 6);
        x.kind(5, 6);
        x.kind(7, 6);
        x.sits(6, 0);
        x.set(5, 2);
        x.start(90, 3);
        x.night(1);
        Check.due("P11 round", x.parts(5, 3), ALL * 2 / 16);
        x.start(7, 2);
        x.night(1);
        // Of the first row nobody goes back: fifteenths.
        Check.due("P11 next", x.parts(90, 2), ALL * 2 / 15);
    }

    private static void rideAlone() {
        SheGoesOut x = new SheGoesOut();
        x.kind(1, 3);
        x.kind(12, 3);
        x.kind(0, 6);
        x.sits(6, 0);
        x.start(0, 2);
        x.night(1);
        Check.due("P11 itself", x.parts(0, 2), ALL);
        x.night(1);
        Check.due("P11 none in MINUTE 1", x.parts(0, 4), ALL);
    }

    private static void parts() {
        SheGoesOut x = new SheGoesOut();
        Check.due("P12 before", x.parts(0, 0), 0);
        Check.due("P12", x.parts(-1, 0), -1);
        Check.due("P12", x.parts(144, 0), -1);
        Check.due("P12", x.parts(0, -1), -1);
        Check.due("P12", x.parts(0, 6), -1);
        for (int side = 0; side < 4; side++) {
            x.start(8, side);
            for (int what = 0; what < 6; what++) {
                Check.due("P12", x.parts(8, what), what == side || what == 5 ? ALL : 0);
            }
        }
        x.start(0, 0);
        x.night(4);
        long sum = 0;
        for (int what = 0; what < 5; what++) sum += x.parts(0, what);
        Check.due("P12 together", x.parts(0, 5), sum);
        Check.holds("P12 both go and sit", x.parts(0, 4) > 0 && sum > x.parts(0, 4));
    }

    private static void odds() {
        SheGoesOut x = new SheGoesOut();
        Check.due("P13 NONE", x.odds(0, 0), -4);
        Check.due("P13 BAD first", x.odds(0, 2), -1);
        Check.due("P13 BAD first", x.odds(144, 0), -1);
        Check.due("P13", x.odds(-1, 0), -1);
        Check.due("P13", x.odds(0, -1), -1);
        x.start(0, 0);
        Check.due("P13 sure", x.odds(0, 0), 1);
        Check.due("P13 sure", x.odds(0, 1), 1);
        Check.due("P13 never", x.odds(1, 0), 0);
        Check.due("P13 never", x.odds(1, 1), 1);
        x.night(1);
        Check.due("P13 a quarter", x.odds(12, 0), 1);
        Check.due("P13 a quarter", x.odds(12, 1), 4);
        x.search(1, 1);
        // A half less three quarters of it: 1 of 5 eighths.
        Check.due("P13 of what is left", x.odds(1, 0), 1);
        Check.due("P13 of what is left", x.odds(1, 1), 5);
        noneLeft(x);
        Check.due("P13 all gone", x.odds(0, 0), -4);
    }

    /** By CALLS from afar nothing is left at all. */
    private static void noneLeft(SheGoesOut x) {
        for (int i = 0; i < 12; i++) x.call(143, 0, 15);
    }

    private static void where() {
        SheGoesOut x = new SheGoesOut();
        Check.due("P14 NONE", x.where(0), -4);
        Check.due("P14 NONE", x.where(1), -4);
        Check.due("P14 BAD", x.where(2), -1);
        Check.due("P14 BAD", x.where(-1), -1);
        x.start(70, 0);
        Check.due("P14", x.where(0), 70);
        Check.due("P14 none sit", x.where(1), -4);
        Check.rules(x, "a1l1r1b1");
        x.night(1);
        Check.due("P14 the first of like ones", x.where(0), 70);
        Check.due("P14 sits", x.where(1), 70);
        x.start(70, 0);
        x.sits(0, 0);
        x.night(1);
        Check.due("P14 the first of like ones", x.where(0), 58);
        Check.due("P14 none sit", x.where(1), -4);
        noneLeft(x);
        Check.due("P14 all gone", x.where(0), -4);
    }

    private static void count() {
        SheGoesOut x = new SheGoesOut();
        Check.due("P15 -1", x.count(-1), -1);
        Check.due("P15 9", x.count(9), -1);
        Check.due("P15 not gone out", x.count(0), -4);
        x.start(0, 0);
        Check.due("P15 minute", x.count(0), 0);
        x.night(7);
        x.team(0, 0, 1);
        x.place(5);
        x.place(6);
        for (int i = 0; i < 3; i++) x.job(0, 0, 1);
        for (int i = 0; i < 4; i++) x.found(0, 0, 0);
        for (int i = 0; i < 5; i++) x.measure(0, 0);
        for (int i = 0; i < 6; i++) x.search(0, i);
        x.search(0, 0);
        for (int i = 0; i < 7; i++) x.kind(50 + i, 6);
        for (int i = 0; i < 8; i++) x.kind(70 + i, 7);
        Check.due("P15 MINUTE", x.count(0), 7);
        Check.due("P15 TEAMS", x.count(1), 1);
        Check.due("P15 PLACES", x.count(2), 2);
        Check.due("P15 JOBS", x.count(3), 3);
        Check.due("P15 FOUND", x.count(4), 4);
        Check.due("P15 MEASURES", x.count(5), 5);
        Check.due("P15 SEARCHED", x.count(6), 6);
        Check.due("P15 STOPS", x.count(7), 7);
        Check.due("P15 HOUSES", x.count(8), 8);
    }

    private static void sees() {
        SheGoesOut x = new SheGoesOut();
        Check.due("P16 NOT", x.sees(0, 0, 0), -2);
        Check.due("P16 BAD first", x.sees(4, 0, 0), -1);
        Check.due("P16", x.sees(-1, 0, 0), -1);
        Check.due("P16", x.sees(0, -1, 0), -1);
        Check.due("P16", x.sees(0, 144, 0), -1);
        Check.due("P16", x.sees(0, 0, 2), -1);
        Check.due("P16", x.sees(0, 0, -1), -1);
        Check.land(x, "opwmahse");
        x.start(0, 0);
        seesAll(x, 999, 999, 1, 1);
        seesAll(x, 0, 999, 2, 1);
        seesAll(x, 999, 0, 1, 2);
        x.night(10);
        seesAll(x, 10, 11, 2, 1);
        seesAll(x, 11, 10, 1, 2);
    }

    private static void seesAll(SheGoesOut x, int dark, int dew, int walkersBy, int dogBy) {
        x.set(8, dark);
        x.set(9, dew);
        for (int sort = 0; sort < 4; sort++) {
            int by = sort == 0 ? walkersBy : sort == 1 ? dogBy : 1;
            for (int kind = 0; kind < 8; kind++) {
                int due = SIXTEENTHS[sort][kind] / by;
                Check.due("P16 sort " + sort + " kind " + kind, x.sees(sort, kind, 0), due);
                int sitting = sort == 3 ? 0 : kind == 2 || kind == 5 ? due / 2 : due;
                Check.due("P16 sitting: sort " + sort + " kind " + kind, x.sees(sort, kind, 1), sitting);
            }
        }
    }

    private static void search() {
        SheGoesOut x = new SheGoesOut();
        Check.due("P17 NOT", x.search(0, 0), -2);
        Check.due("P17", x.search(4, 0), -1);
        Check.due("P17", x.search(-1, 0), -1);
        Check.due("P17", x.search(0, 144), -1);
        Check.due("P17", x.search(0, -1), -1);
        x.start(0, 0);
        Check.due("P17 a dog", x.search(1, 0), 750);
        Check.due("P17 a quarter stays", x.parts(0, 0), ALL / 4);
        Check.due("P17 of what is left", x.search(1, 0), 750);
        Check.due("P17", x.parts(0, 0), ALL / 16);
        Check.due("P17 walkers in the dark", x.search(0, 0), 375);
        Check.due("P17", x.parts(0, 0), ALL / 16 * 10 / 16);
        Check.due("P17 counted", x.told(0, 2), 3);
        Check.due("P17 none there", x.search(1, 5), 0);
        Check.due("P17 counted", x.told(5, 2), 1);
        noneLeft(x);
        Check.due("P17 NONE", x.search(1, 0), -4);
        Check.due("P17 not counted", x.told(0, 2), 3);
    }

    private static void searchByEach() {
        SheGoesOut x = new SheGoesOut();
        x.kind(0, 5);
        x.start(0, 0);
        x.night(2);
        x.call(0, 0, 0);
        long[] were = new long[5];
        long all = 0;
        for (int cell = 0; cell < 144; cell++) all += x.parts(cell, 5);
        for (int what = 0; what < 5; what++) were[what] = x.parts(0, what);
        Check.holds("P17 some sit", were[4] > 0);
        Check.holds("P17 some go", were[0] + were[3] > 0);
        // EYES see a HEDGE by 8, and who sits there by 4.
        long seen = 0;
        for (int what = 0; what < 5; what++) seen += were[what] * (what == 4 ? 4 : 8) / 16;
        Check.due("P17 thousandths", x.search(2, 0), seen * 1000 / all);
        for (int what = 0; what < 5; what++) {
            Check.due("P17 each by itself " + what, x.parts(0, what), were[what] - were[what] * (what == 4 ? 4 : 8) / 16);
        }
    }

    /** One of 2^40 is still one. */
    private static void onePartLeft() {
        SheGoesOut x = new SheGoesOut();
        x.start(0, 0);
        for (int i = 0; i < 10; i++) x.call(143, 0, 15);
        Check.due("P24 one is left", x.parts(0, 5), 1);
        Check.due("P13 one", x.odds(0, 0), 1);
        Check.due("P13 one", x.odds(0, 1), 1);
        Check.due("P14 one", x.where(0), 0);
        Check.due("P17 one, cut", x.search(1, 0), 0);
        Check.due("P17 one stays", x.parts(0, 5), 1);
        Check.due("P24 one", x.call(0, 0, 15), 1000);
        Check.due("P25 one", x.truly(0, 0, 15, 1), 2161);
        x.sheet(0, 3, 12);
        Check.due("P41 one", x.film(0, 0, 3, 0), 12);
        x.sits(0, 0);
        Check.due("P11 one", x.night(1), 1);
        Check.due("P11 one, cut, sits", x.where(1), 0);
        Check.due("P24 none", x.call(143, 0, 1), 0);
        Check.due("P13 none", x.odds(0, 0), -4);
    }

    private static void alive() {
        SheGoesOut x = new SheGoesOut();
        Check.due("P18", x.alive(-1), -1);
        Check.due("P18", x.alive(1000), -1);
        // To 240 and 60 less 80: 220; then 6 less each.
        Check.due("P18", x.alive(0), 1000);
        Check.due("P18", x.alive(220), 1000);
        Check.due("P18", x.alive(221), 994);
        Check.due("P18", x.alive(240), 880);
        Check.due("P18", x.alive(386), 4);
        Check.due("P18", x.alive(387), 0);
        Check.due("P18", x.alive(999), 0);
        x.set(6, 3);
        x.set(7, 0);
        Check.due("P18 warm", x.alive(420), 1000);
        Check.due("P18 warm", x.alive(421), 998);
        Check.due("P18 warm", x.alive(919), 2);
        Check.due("P18 warm", x.alive(920), 0);
        x.set(6, 0);
        x.set(7, 9);
        Check.due("P18 cold", x.alive(60), 1000);
        Check.due("P18 cold", x.alive(61), 989);
        Check.due("P18 cold", x.alive(150), 10);
        Check.due("P18 cold", x.alive(151), 0);
    }
}
