/** Promises 28 to 35: the book, the door, the neighbours. Numbers are worked out by hand from the document. */
final class BookTest {
    private static final long ALL = 1L << 40;

    public static void main(String[] args) {
        found();
        share();
        span();
        held();
        measure();
        leaves();
        least();
        net();
        netOfMany();
        netTogether();
        Check.close();
    }

    private static void found() {
        SheGoesOut x = new SheGoesOut();
        Check.due("P28", x.found(-1, 0, 0), -1);
        Check.due("P28", x.found(4, 0, 0), -1);
        Check.due("P28", x.found(0, -1, 0), -1);
        Check.due("P28", x.found(0, 100, 0), -1);
        Check.due("P28", x.found(0, 0, -1), -1);
        Check.due("P28", x.found(0, 0, 8), -1);
        for (int i = 1; i <= 60; i++) Check.due("P28", x.found(i % 4, i, i % 8), i);
        Check.due("P28 full", x.found(3, 99, 7), -3);
        Check.due("P28 it counts", x.status(2), 1);
        Check.due("P28 BAD first", x.found(3, 100, 7), -1);
        Check.due("P28", x.count(4), 60);
    }

    private static void share() {
        SheGoesOut x = new SheGoesOut();
        Check.due("P29", x.share(-1, 0), -1);
        Check.due("P29", x.share(8, 0), -1);
        Check.due("P29", x.share(0, -1), -1);
        Check.due("P29", x.share(0, 2), -1);
        for (int kind = 0; kind < 8; kind++) {
            Check.due("P29 at first", x.share(kind, 0), 1);
            Check.due("P29 at first", x.share(kind, 1), 8);
        }
        x.found(0, 0, 3);
        x.found(1, 0, 3);
        x.found(2, 0, 7);
        x.found(3, 0, 3);
        // 4 by 12, 2 by 12, 1 by 12.
        Check.due("P29", x.share(3, 0), 1);
        Check.due("P29", x.share(3, 1), 3);
        Check.due("P29", x.share(7, 0), 1);
        Check.due("P29", x.share(7, 1), 6);
        Check.due("P29", x.share(0, 0), 1);
        Check.due("P29", x.share(0, 1), 12);
        x.found(0, 0, 3);
        Check.due("P29", x.share(3, 0), 5);
        Check.due("P29", x.share(3, 1), 13);
    }

    private static void span() {
        SheGoesOut x = new SheGoesOut();
        Check.due("P30", x.span(-1, 1), -1);
        Check.due("P30", x.span(4, 1), -1);
        Check.due("P30", x.span(0, 0), -1);
        Check.due("P30", x.span(0, 5), -1);
        Check.due("P30 none", x.span(0, 1), -4);
        x.found(0, 50, 0);
        for (int q = 1; q <= 4; q++) Check.due("P30 one", x.span(0, q), 50);
        Check.due("P30 none of that AGE", x.span(3, 1), -4);
        x.found(0, 10, 0);
        x.found(1, 0, 0);
        x.found(0, 99, 0);
        x.found(0, 10, 0);
        // 10 10 50 99.
        Check.due("P30", x.span(0, 1), 10);
        Check.due("P30", x.span(0, 2), 10);
        Check.due("P30", x.span(0, 3), 50);
        Check.due("P30", x.span(0, 4), 99);
        x.found(0, 20, 0);
        // 10 10 20 50 99: 2, 3, 4, 5 of these.
        Check.due("P30 cut up", x.span(0, 1), 10);
        Check.due("P30 cut up", x.span(0, 2), 20);
        Check.due("P30 cut up", x.span(0, 3), 50);
        Check.due("P30 cut up", x.span(0, 4), 99);
        Check.due("P30 0", x.span(1, 4), 0);
    }

    private static void held() {
        SheGoesOut x = new SheGoesOut();
        Check.due("P31 none", x.held(), 0);
        x.found(2, 5, 0);
        Check.due("P31 no others", x.held(), 0);
        x.found(1, 5, 0);
        Check.due("P31 no others of that AGE", x.held(), 0);
        x.found(2, 5, 0);
        Check.due("P31 both", x.held(), 2);
        x.found(2, 6, 0);
        // 5 by (5 6): 6; 6 by (5 5): 5.
        Check.due("P31", x.held(), 2);
        x.found(2, 4, 0);
        // By 3 others, the third of these: 6 by (4 5 5) not.
        Check.due("P31", x.held(), 3);
        x.found(2, 7, 0);
        // By 4 others, the third of these: 7 by (4 5 5 6): not; 6 by (4 5 5 7): not; 5 by (4 5 6 7).
        Check.due("P31", x.held(), 3);
        x.found(2, 7, 0);
        // By 5 others, the fourth of these: 7 by (4 5 5 6 7): not; 6 by (4 5 5 7 7).
        Check.due("P31", x.held(), 4);
    }

    private static void measure() {
        SheGoesOut x = new SheGoesOut();
        Check.due("P32", x.measure(-1, 0), -1);
        Check.due("P32", x.measure(16, 0), -1);
        Check.due("P32", x.measure(0, -1), -1);
        Check.due("P32", x.measure(0, 16), -1);
        for (int i = 0; i < 8; i++) Check.due("P32", x.measure(15 - i, 15 - 2 * i), i);
        Check.due("P32 full", x.measure(0, 0), -3);
        Check.due("P32 it counts", x.status(2), 1);
        Check.due("P32 BAD first", x.measure(16, 0), -1);
        Check.due("P32", x.count(5), 8);
    }

    private static void leaves() {
        SheGoesOut x = new SheGoesOut();
        Check.due("P33 empty", x.leaves(0, 0), 1);
        Check.due("P33 empty", x.leaves(0, 1), 1);
        Check.due("P33 not there", x.leaves(1, 0), -1);
        x.measure(4, 0);
        x.measure(15, 0);
        x.measure(0, 0);
        Check.due("P33", x.leaves(1, 0), 3);
        Check.due("P33", x.leaves(1, 1), 4);
        Check.due("P33", x.leaves(2, 0), 1);
        Check.due("P33", x.leaves(2, 1), 16);
        Check.due("P33", x.leaves(3, 0), 3);
        Check.due("P33", x.leaves(3, 1), 64);
        Check.due("P33", x.leaves(4, 0), 1);
        Check.due("P33", x.leaves(4, 1), 1);
        Check.due("P33", x.leaves(7, 1), 64);
        Check.due("P33 not there", x.leaves(8, 0), -1);
        Check.due("P33 below 0", x.leaves(-1, 0), -1);
        Check.due("P33 part", x.leaves(0, 2), -1);
        Check.due("P33 part", x.leaves(0, -1), -1);
        for (int i = 0; i < 5; i++) x.measure(15, 0);
        // Of eight: 12 by 16, 1, and six times 1 by 16.
        Check.due("P33 eight", x.leaves(255, 0), 3);
        Check.due("P33 eight", x.leaves(255, 1), 4L << 24);
        Check.due("P33 not there", x.leaves(256, 0), -1);
        Check.due("P33 not there", x.leaves(Integer.MIN_VALUE, 0), -1);
    }

    private static void least() {
        SheGoesOut x = new SheGoesOut();
        Check.due("P34", x.least(-1, 0), -1);
        Check.due("P34", x.least(17, 0), -1);
        Check.due("P34", x.least(0, 2), -1);
        Check.due("P34", x.least(0, -1), -1);
        Check.due("P34 none", x.least(15, 0), -4);
        Check.due("P34 the empty set", x.least(16, 0), 0);
        Check.due("P34 the empty set", x.least(16, 1), 0);
        x.measure(8, 5);
        x.measure(8, 3);
        x.measure(12, 8);
        x.measure(0, 0);
        // LEAVES in sixteenths: 8, 8, 4, 16; two of the first: 4; all: 1.
        Check.due("P34", x.least(0, 0), -4);
        Check.due("P34", x.least(1, 0), 7);
        Check.due("P34", x.least(1, 1), 16);
        Check.due("P34", x.least(2, 0), 6);
        Check.due("P34", x.least(2, 1), 11);
        Check.due("P34 of like ones the least set", x.least(4, 0), 3);
        Check.due("P34", x.least(4, 1), 8);
        Check.due("P34", x.least(7, 0), 3);
        Check.due("P34 just so much", x.least(8, 0), 2);
        Check.due("P34", x.least(8, 1), 3);
        Check.due("P34", x.least(15, 0), 2);
        Check.due("P34", x.least(16, 0), 0);
    }

    private static void net() {
        SheGoesOut x = new SheGoesOut();
        Check.due("P35 k", x.net(0, -1), -1);
        Check.due("P35 k", x.net(5, -1), -1);
        Check.due("P35 i", x.net(2, -2), -1);
        Check.due("P35 i", x.net(2, 2), -1);
        Check.due("P35 i", x.net(1, 1), -1);
        Check.due("P35 no HOUSE", x.net(1, 0), -4);
        x.kind(0, 7);
        x.kind(2, 7);
        x.kind(143, 7);
        Check.due("P35 nobody goes", x.net(2, -1), 0);
        Check.due("P35 the first row", x.net(2, 0), 0);
        Check.due("P35 the first row", x.net(2, 1), 2);
        x.start(13, 0);
        Check.due("P35", x.net(1, -1), ALL);
        Check.due("P35 of like ones the first", x.net(1, 0), 0);
        Check.due("P35 each once", x.net(2, -1), ALL);
        Check.due("P35", x.net(3, 2), 143);
        Check.due("P35 fewer HOUSES", x.net(4, -1), -4);
        x.start(142, 0);
        Check.due("P35", x.net(1, 0), 143);
        Check.due("P35 the least first", x.net(2, 0), 0);
        Check.due("P35 the least first", x.net(2, 1), 143);
        x.start(26, 0);
        Check.due("P35 farther than 1", x.net(3, -1), 0);
        x.start(0, 0);
        Check.due("P35 the HOUSE itself", x.net(1, -1), ALL);
        x.kind(12, 7);
        x.start(23, 0);
        Check.due("P35 not round", x.net(4, -1), 0);
    }

    private static void netOfMany() {
        SheGoesOut x = new SheGoesOut();
        for (int i = 0; i < 9; i++) x.kind(i, 7);
        x.kind(60, 7);
        x.kind(143, 7);
        x.start(131, 0);
        Check.due("P35 the first 10 only", x.net(1, -1), 0);
        Check.due("P35 the first 10 only", x.net(4, -1), 0);
        Check.due("P35 the first row", x.net(4, 3), 3);
        x.start(49, 0);
        Check.due("P35 the tenth", x.net(4, -1), ALL);
        Check.due("P35 the tenth", x.net(4, 3), 60);
        Check.due("P35 the tenth", x.net(4, 2), 2);
    }

    private static void netTogether() {
        SheGoesOut x = new SheGoesOut();
        x.sits(0, 0);
        x.start(65, 0);
        x.night(1);
        // 8, 3, 2, 1 of 14 in CELLS 53, 64, 66, 77.
        x.kind(41, 7);
        x.kind(76, 7);
        x.kind(67, 7);
        long ahead = ALL * 8 / 14;
        long left = ALL * 3 / 14;
        long right = ALL * 2 / 14;
        long back = ALL / 14;
        // 41 hears 53; 76 hears 64, 77 and those that sit in 65; 67 hears 66.
        long sit = ALL - ahead - left - right - back;
        Check.due("P35 one", x.net(1, -1), ahead);
        Check.due("P35 one", x.net(1, 0), 41);
        Check.due("P35 two", x.net(2, -1), ahead + left + back + sit);
        Check.due("P35 two", x.net(2, 0), 41);
        Check.due("P35 two", x.net(2, 1), 76);
        Check.due("P35 three", x.net(3, -1), ALL);
        Check.due("P35 by numbers", x.net(3, 1), 67);
        x.kind(41, 0);
        x.kind(75, 7);
        // 75 hears 64; 67 hears 66; 76 hears 64, 77, 65.
        Check.due("P35 once", x.net(2, -1), left + back + sit + right);
        Check.due("P35 once", x.net(2, 0), 67);
        Check.due("P35 once", x.net(2, 1), 76);
    }
}
