/** Promises 1 to 9, 36 to 39: the land, settings, texts, images, STATUS. */
final class LandTest {
    private static final int[] SETTINGS = {8, 3, 2, 1, 2, 4, 1, 4, 0, 240};
    private static final int[] HIGHEST = {9, 9, 9, 9, 9, 9, 3, 9, 999, 999};
    private static final int[] SITS = {1, 0, 3, 0, 0, 9, 2, 2};

    public static void main(String[] args) {
        constants();
        aNewObject();
        kind();
        draw();
        told();
        set();
        sits();
        type();
        land();
        landFaults();
        landFaultsAmongBlanks();
        landKeepsTheRest();
        rules();
        rulesFaults();
        rulesFaultsAmongBlanks();
        clear();
        image();
        imageKeepsAll();
        status();
        Check.close();
    }

    private static void constants() {
        Check.due("BAD", SheGoesOut.BAD, -1);
        Check.due("NOT", SheGoesOut.NOT, -2);
        Check.due("FULL", SheGoesOut.FULL, -3);
        Check.due("NONE", SheGoesOut.NONE, -4);
        Check.due("NULL", SheGoesOut.NULL, -11);
        Check.due("CAST", SheGoesOut.CAST, -12);
        Check.due("INDEX", SheGoesOut.INDEX, -13);
        Check.due("SIZE", SheGoesOut.SIZE, -14);
    }

    private static void aNewObject() {
        SheGoesOut x = new SheGoesOut();
        for (int cell = 0; cell < 144; cell++) {
            for (int what = 0; what < 3; what++) Check.due("P1 told", x.told(cell, what), 0);
        }
        x = new SheGoesOut();
        for (int cell = 0; cell < 144; cell++) Check.due("P1 parts", x.parts(cell, 5), 0);
        Check.due("P1 count(0)", x.count(0), -4);
        for (int what = 1; what < 9; what++) Check.due("P1 count", x.count(what), 0);
        for (int what = 0; what < 10; what++) Check.due("P1 setting " + what, x.set(what, 0), SETTINGS[what]);
        for (int kind = 0; kind < 8; kind++) Check.due("P1 sits " + kind, x.sits(kind, 0), SITS[kind]);
        for (int sheet = 0; sheet < 4; sheet++) Check.due("P1 drop", x.drop(sheet), -11);
        Check.due("P1 restore", x.restore(), -4);
        Check.due("P1 tape", x.land(), -20);
    }

    private static void kind() {
        SheGoesOut x = new SheGoesOut();
        Check.due("P2", x.kind(0, 7), 0);
        Check.due("P2", x.kind(0, 3), 7);
        Check.due("P2", x.kind(0, 0), 3);
        Check.due("P2", x.kind(143, 5), 0);
        Check.due("P2", x.told(143, 0), 5);
        Check.due("P2 other cell", x.told(142, 0), 0);
        Check.due("P2 -1", x.kind(-1, 0), -1);
        Check.due("P2 144", x.kind(144, 0), -1);
        Check.due("P2 8", x.kind(143, 8), -1);
        Check.due("P2 -1", x.kind(143, -1), -1);
        Check.due("P2 least int", x.kind(Integer.MIN_VALUE, 0), -1);
        Check.due("P2 unchanged", x.told(143, 0), 5);
        x.draw(143, 4);
        x.kind(143, 1);
        Check.due("P2 leaves DRAW", x.told(143, 1), 4);
    }

    private static void draw() {
        SheGoesOut x = new SheGoesOut();
        Check.due("P3", x.draw(0, 9), 0);
        Check.due("P3", x.draw(0, 4), 9);
        Check.due("P3", x.draw(143, 1), 0);
        Check.due("P3", x.told(0, 1), 4);
        Check.due("P3 0", x.draw(143, 0), 1);
        Check.due("P3 0", x.told(143, 1), 0);
        Check.due("P3 10", x.draw(0, 10), -1);
        Check.due("P3 -1", x.draw(0, -1), -1);
        Check.due("P3 cell", x.draw(-1, 0), -1);
        Check.due("P3 cell", x.draw(144, 0), -1);
        Check.due("P3 unchanged", x.told(0, 1), 4);
    }

    private static void told() {
        SheGoesOut x = new SheGoesOut();
        x.kind(7, 2);
        x.draw(7, 5);
        x.start(7, 0);
        x.search(0, 7);
        x.search(1, 7);
        Check.due("P4", x.told(7, 0), 2);
        Check.due("P4", x.told(7, 1), 5);
        Check.due("P4", x.told(7, 2), 2);
        Check.due("P4", x.told(7, 3), -1);
        Check.due("P4", x.told(7, -1), -1);
        Check.due("P4", x.told(-1, 0), -1);
        Check.due("P4", x.told(144, 0), -1);
    }

    private static void set() {
        SheGoesOut x = new SheGoesOut();
        for (int what = 0; what < 10; what++) {
            Check.due("P5 too high " + what, x.set(what, HIGHEST[what] + 1), -1);
            Check.due("P5 below 0 " + what, x.set(what, -1), -1);
            Check.due("P5 highest " + what, x.set(what, HIGHEST[what]), SETTINGS[what]);
            Check.due("P5 lowest " + what, x.set(what, 0), HIGHEST[what]);
            Check.due("P5 was 0 " + what, x.set(what, 1), 0);
        }
        Check.due("P5 10", x.set(10, 0), -1);
        Check.due("P5 -1", x.set(-1, 0), -1);
    }

    private static void sits() {
        SheGoesOut x = new SheGoesOut();
        for (int kind = 0; kind < 8; kind++) {
            Check.due("P6 10", x.sits(kind, 10), -1);
            Check.due("P6 -1", x.sits(kind, -1), -1);
            Check.due("P6", x.sits(kind, 9), SITS[kind]);
            Check.due("P6", x.sits(kind, 0), 9);
        }
        Check.due("P6 8", x.sits(8, 0), -1);
        Check.due("P6 -1", x.sits(-1, 0), -1);
    }

    private static void type() {
        SheGoesOut x = new SheGoesOut();
        Check.due("P7", x.type('o', 1), 1);
        Check.due("P7 highest first", x.type(((long) 'p' << 8) | 'x', 2), 3);
        Check.due("P7 x is the third", x.land(), -22);
        Check.due("P7 bytes above n do not count", x.type((1L << 40) | 'o', 1), 1);
        Check.due("P7 32 .. 126", x.type((32L << 8) | 126, 2), 3);
        Check.due("P7 31", x.type(31, 1), -1);
        Check.due("P7 127", x.type(127, 1), -1);
        Check.due("P7 255", x.type(-1, 1), -1);
        Check.due("P7 a higher byte", x.type((31L << 8) | 'o', 2), -1);
        Check.due("P7 the highest byte", x.type(((long) 128 << 56) | 0x6f6f6f6f6f6f6fL, 8), -1);
        Check.due("P7 0", x.type('o', 0), -1);
        Check.due("P7 9", x.type(0x6f6f6f6f6f6f6f6fL, 9), -1);
        Check.due("P7 greatest int", x.type(0x6f6f6f6f6f6f6f6fL, Integer.MAX_VALUE), -1);
        Check.due("P7 -1", x.type('o', -1), -1);
        Check.due("P7 nothing came", x.type('o', 1), 4);
        x.land();
        long blanks = 0x2020202020202020L;
        for (int i = 1; i <= 19; i++) Check.due("P7 full", x.type(blanks, 8), 8 * i);
        Check.due("P7 159", x.type(blanks, 7), 159);
        Check.due("P7 161", x.type(blanks, 2), -3);
        Check.due("P7 BAD first", x.type(31, 2), -1);
        Check.due("P7 160", x.type('o', 1), 160);
        Check.due("P7 161", x.type('o', 1), -3);
        Check.due("P7 the last byte", x.land(), 1);
        Check.due("P7 empty again", x.type('o', 1), 1);
    }

    private static void land() {
        SheGoesOut x = new SheGoesOut();
        Check.due("P8", Check.land(x, "opwmahse"), 8);
        for (int cell = 0; cell < 8; cell++) Check.due("P8 letters", x.told(cell, 0), cell);
        Check.due("P8", Check.land(x, "e9s3/o/p2w1"), 16);
        for (int cell = 0; cell < 9; cell++) Check.due("P8 e9", x.told(cell, 0), 7);
        for (int cell = 9; cell < 12; cell++) Check.due("P8 s3", x.told(cell, 0), 6);
        Check.due("P8 row 1", x.told(12, 0), 0);
        Check.due("P8 row 2", x.told(24, 0), 1);
        Check.due("P8 row 2", x.told(25, 0), 1);
        Check.due("P8 row 2", x.told(26, 0), 2);
        Check.due("P8 row 2", x.told(27, 0), 0);
        Check.due("P8 twelve rows", Check.land(x, "w/w/w/w/w/w/w/w/w/w/w/w9m3"), 23);
        Check.due("P8 last cell", x.told(143, 0), 3);
        Check.due("P8 twelve letters", Check.land(x, "oooooooooooo"), 12);
        Check.due("P8 twelve by 1", Check.land(x, "o9o2o1"), 12);
        Check.due("P8 blanks", Check.land(x, " e 2 /  h 3 "), 5);
        Check.due("P8 blanks", x.told(1, 0), 7);
        Check.due("P8 blanks", x.told(14, 0), 5);
        Check.due("P8 tape is empty", x.land(), -20);
    }

    private static void landFaults() {
        SheGoesOut x = new SheGoesOut();
        Check.land(x, "e9");
        Check.due("P8 nothing", x.land(), -20);
        Check.due("P8 /", Check.land(x, "/o"), -20);
        Check.due("P8 end behind /", Check.land(x, "o/"), -22);
        Check.due("P8 two /", Check.land(x, "o//o"), -22);
        Check.due("P8 a digit ahead", Check.land(x, "3o"), -20);
        Check.due("P8 a digit first in a row", Check.land(x, "o/3o"), -22);
        Check.due("P8 two digits", Check.land(x, "o11"), -22);
        Check.due("P8 0", Check.land(x, "o0"), -21);
        Check.due("P8 no letter", Check.land(x, "opx"), -22);
        Check.due("P8 a large letter", Check.land(x, "O"), -20);
        Check.due("P8 13 by a letter", Check.land(x, "o9o3p"), -24);
        Check.due("P8 13 by a digit", Check.land(x, "o9o4"), -23);
        Check.due("P8 13 by a digit at the edge", Check.land(x, "o9o2o2"), -25);
        Check.due("P8 13 rows", Check.land(x, "o/o/o/o/o/o/o/o/o/o/o/o/o"), -43);
        for (int cell = 0; cell < 9; cell++) Check.due("P8 stays", x.told(cell, 0), 7);
        Check.due("P8 a FAULT empties", x.land(), -20);
        Check.due("P8 counted", x.status(8), 15);
    }

    private static void landFaultsAmongBlanks() {
        SheGoesOut x = new SheGoesOut();
        Check.land(x, "e9");
        Check.due("P8 one blank", Check.land(x, " "), -21);
        Check.due("P8 blanks only", Check.land(x, "   "), -23);
        Check.due("P8 the tape full of blanks", Check.land(x, " ".repeat(160)), -180);
        Check.due("P8 the end behind / and blanks", Check.land(x, " o / "), -25);
        Check.due("P8 the end behind a blank", Check.land(x, "o/ "), -23);
        Check.due("P8 / behind a blank", Check.land(x, " /o"), -21);
        Check.due("P8 two /, a blank between", Check.land(x, "o/ /o"), -23);
        Check.due("P8 a digit behind blanks", Check.land(x, "  3o"), -22);
        Check.due("P8 two digits, a blank between", Check.land(x, "o1 1"), -23);
        Check.due("P8 0 behind a blank", Check.land(x, "o 0"), -22);
        Check.due("P8 no letter", Check.land(x, " o p  x "), -26);
        Check.due("P8 13 by a letter", Check.land(x, "o9 o3 p"), -26);
        Check.due("P8 13 by a digit", Check.land(x, "o 9 o 4"), -26);
        Check.due("P8 13 rows", Check.land(x, "o/ o/o/o/o/o/o/o/o/o/o/o /o"), -45);
        Check.due("P8 the last byte of a full tape", Check.land(x, " ".repeat(159) + "x"), -179);
        for (int cell = 0; cell < 9; cell++) Check.due("P8 stays", x.told(cell, 0), 7);
        Check.due("P8 a FAULT empties", x.land(), -20);
        Check.due("P8 counted", x.status(8), 16);
        Check.due("P8 the last letter of a full tape", Check.land(x, " ".repeat(159) + "m"), 1);
        Check.due("P8 the last letter of a full tape", x.told(0, 0), 3);
    }

    private static void landKeepsTheRest() {
        SheGoesOut x = new SheGoesOut();
        x.kind(2, 5);
        x.draw(1, 6);
        x.draw(2, 7);
        x.kind(12, 4);
        x.start(0, 1);
        x.search(0, 0);
        Check.due("P8", Check.land(x, "pp"), 2);
        Check.due("P8 DRAW 0", x.told(1, 1), 0);
        Check.due("P8 others stay", x.told(2, 0), 5);
        Check.due("P8 others stay", x.told(2, 1), 7);
        Check.due("P8 others stay", x.told(12, 0), 4);
        Check.due("P8 SEARCHED stays", x.told(0, 2), 1);
        Check.due("P8 parts stay", x.parts(0, 1), (1L << 40) - (1L << 40) * 6 / 16);
    }

    private static void rules() {
        SheGoesOut x = new SheGoesOut();
        Check.due("P9", Check.rules(x, "a0l1r2b3t5d9"), 6);
        int[] due = {0, 1, 2, 3, 5, 9};
        for (int what = 0; what < 6; what++) Check.due("P9 setting " + what, x.set(what, 0), due[what]);
        Check.due("P9", Check.rules(x, "d 4 a 7"), 2);
        Check.due("P9", x.set(5, 0), 4);
        Check.due("P9", x.set(0, 0), 7);
        Check.due("P9 others stay", x.set(1, 1), 0);
        Check.due("P9 others stay", x.set(7, 1), 4);
        Check.due("P9 tape is empty", x.rules(), -20);
    }

    private static void rulesFaults() {
        SheGoesOut x = new SheGoesOut();
        Check.due("P9 nothing", x.rules(), -20);
        Check.due("P9 no digit", Check.rules(x, "a"), -21);
        Check.due("P9 a letter for a digit", Check.rules(x, "al"), -21);
        Check.due("P9 two digits", Check.rules(x, "a11"), -22);
        Check.due("P9 twice", Check.rules(x, "a1l2a3"), -24);
        Check.due("P9 no letter", Check.rules(x, "a1x2"), -22);
        Check.due("P9 a digit first", Check.rules(x, "1a"), -20);
        Check.due("P9 seven", Check.rules(x, "a0l1r2b3t5d9a1"), -32);
        Check.due("P9 the end", Check.rules(x, "a1l"), -23);
        for (int what = 0; what < 10; what++) Check.due("P9 stays", x.set(what, 0), SETTINGS[what]);
        Check.due("P9 a FAULT empties", x.rules(), -20);
        Check.due("P9 counted", x.status(8), 10);
    }

    private static void rulesFaultsAmongBlanks() {
        SheGoesOut x = new SheGoesOut();
        Check.due("P9 one blank", Check.rules(x, " "), -21);
        Check.due("P9 blanks only", Check.rules(x, "   "), -23);
        Check.due("P9 the tape full of blanks", Check.rules(x, " ".repeat(160)), -180);
        Check.due("P9 the end behind a blank", Check.rules(x, "a "), -22);
        Check.due("P9 the end, blanks among", Check.rules(x, "a1 l "), -25);
        Check.due("P9 no digit, a blank ahead", Check.rules(x, "a l"), -22);
        Check.due("P9 no letter, blanks among", Check.rules(x, " a 1 x"), -25);
        Check.due("P9 two digits, a blank between", Check.rules(x, "a 11"), -23);
        Check.due("P9 twice, a blank between", Check.rules(x, "a1 a2"), -23);
        Check.due("P9 a digit first, a blank ahead", Check.rules(x, " 1a"), -21);
        Check.due("P9 seven, blanks among", Check.rules(x, "a0l1r2 b3t5d9 a1"), -34);
        for (int what = 0; what < 10; what++) Check.due("P9 stays", x.set(what, SETTINGS[what]), SETTINGS[what]);
        Check.due("P9 a FAULT empties", x.rules(), -20);
        Check.due("P9 counted", x.status(8), 12);
        Check.due("P9 blanks behind", Check.rules(x, "a5  "), 1);
        Check.due("P9 blanks behind", x.set(0, 0), 5);
    }

    private static void clear() {
        SheGoesOut x = new SheGoesOut();
        Check.due("P36 nothing", x.clear(), 0);
        x.team(0, 0, 1);
        x.team(0, 0, 1);
        x.place(1);
        x.place(2);
        x.place(3);
        x.job(0, 0, 1);
        for (int i = 0; i < 5; i++) x.measure(1, 1);
        for (int i = 0; i < 7; i++) x.found(0, 0, 0);
        Check.due("P36", x.clear(), 18);
        for (int what = 1; what <= 5; what++) Check.due("P36 count " + what, x.count(what), 0);
        Check.due("P36 numbers begin anew", x.team(0, 0, 1), 0);
        Check.due("P36", x.place(1), 0);
        Check.due("P36", x.job(0, 0, 1), 0);
        Check.due("P36", x.measure(0, 0), 0);
        Check.due("P36", x.found(0, 0, 0), 1);
        x.kind(3, 3);
        x.clear();
        Check.due("P36 the land stays", x.told(3, 0), 3);
    }

    private static void image() {
        SheGoesOut x = new SheGoesOut();
        Check.due("P38 NONE", x.restore(), -4);
        Check.due("P37", x.image(), 1);
        x.kind(5, 5);
        x.start(0, 0);
        Check.due("P38", x.restore(), 1);
        Check.due("P38 kind", x.told(5, 0), 0);
        Check.due("P38 not gone out", x.count(0), -4);
        Check.due("P38 not gone out", x.night(1), -2);
        x.kind(5, 6);
        Check.due("P38 again", x.restore(), 1);
        Check.due("P38 again", x.told(5, 0), 0);
        x.kind(5, 7);
        Check.due("P37 anew", x.image(), 1);
        x.kind(5, 2);
        x.restore();
        Check.due("P37 the newer", x.told(5, 0), 7);
        x.start(143, 3);
        x.draw(143, 8);
        x.search(1, 143);
        x.image();
        x.start(0, 0);
        x.draw(143, 1);
        x.restore();
        Check.due("P38 the last CELL", x.parts(143, 3), 1L << 38);
        Check.due("P38 the last CELL", x.parts(0, 5), 0);
        Check.due("P38 the last CELL", x.told(143, 1), 8);
        Check.due("P38 the last CELL", x.told(143, 2), 1);
    }

    private static void imageKeepsAll() {
        SheGoesOut x = new SheGoesOut();
        fill(x);
        x.image();
        x.sheet(0, 2, 3);
        Check.type(x, "o");
        x.kind(-1, 0);
        fillOtherwise(x);
        Check.due("P38", x.restore(), 1);
        Check.due("P38 kind", x.told(1, 0), 2);
        Check.due("P38 draw", x.told(2, 1), 3);
        Check.due("P38 searched", x.told(50, 2), 0);
        Check.due("P38 searched", x.told(0, 2), 1);
        Check.due("P38 minute", x.count(0), 0);
        Check.due("P38 parts", x.parts(0, 2), 1L << 38);
        Check.due("P38 together", x.odds(0, 1), 1);
        Check.due("P38 teams", x.count(1), 2);
        Check.due("P38 places", x.count(2), 1);
        Check.due("P38 jobs", x.count(3), 2);
        Check.due("P38 book", x.count(4), 2);
        Check.due("P38 measures", x.count(5), 2);
        // Alive to 60, then 11 less each: the dog comes at 66, EYES at 88; then EYES end at 60, the dog at 80.
        Check.due("P38 whom", x.whom(-1), (1L << 34) * 12 * 934);
        Check.due("P38 bound", x.bound(), (1L << 34) * (12 * 934 + 14 * 692));
        Check.due("P38 order", x.order(-1), (1L << 34) * (14 * 1000 + 12 * 780));
        Check.due("P38 order", x.order(0), 1);
        Check.due("P38 span", x.span(0, 4), 44);
        Check.due("P38 share", x.share(2, 0), 3);
        Check.due("P38 share", x.share(2, 1), 10);
        Check.due("P38 leaves", x.leaves(3, 1), 16);
        Check.due("P38 shuts", x.least(12, 1), 2);
        Check.due("P38 setting", x.set(7, 0), 9);
        Check.due("P38 sits", x.sits(1, 0), 0);
        Check.due("P37 the tape is no part", x.type('x', 1), 2);
        Check.due("P37 sheets are no part", x.drop(0), 3);
        Check.due("P37 STATUS is no part", x.status(0), 1);
    }

    private static void fill(SheGoesOut x) {
        x.kind(1, 2);
        x.draw(2, 3);
        x.set(6, 0);
        x.set(7, 9);
        x.start(0, 2);
        x.search(1, 0);
        x.team(1, 143, 3);
        x.team(2, 143, 4);
        x.place(0);
        x.job(0, 1, 20);
        x.job(0, 2, 60);
        x.found(0, 44, 2);
        x.found(0, 3, 2);
        x.measure(4, 2);
        x.measure(12, 5);
    }

    private static void fillOtherwise(SheGoesOut x) {
        x.kind(1, 6);
        x.draw(2, 6);
        x.set(7, 0);
        x.sits(1, 7);
        x.night(3);
        x.search(3, 50);
        x.clear();
        for (int i = 0; i < 3; i++) {
            x.found(1, 1, 1);
            x.team(3, 1, 1);
            x.place(9 + i);
            x.job(9, 3, 5);
        }
        x.measure(9, 9);
    }

    private static void status() {
        SheGoesOut x = new SheGoesOut();
        for (int reason = 0; reason < 9; reason++) Check.due("P39 at first", x.status(reason), 0);
        Check.due("P39 9", x.status(9), -1);
        Check.due("P39 -1", x.status(-1), -1);
        Check.due("P39 this counts, too", x.status(0), 2);
        x.night(1);
        for (int i = 0; i < 5; i++) x.team(0, 0, 1);
        x.restore();
        x.restore();
        x.restore();
        x.drop(0);
        x.drop(1);
        x.sheet(0, 1, 2);
        for (int i = 0; i < 4; i++) x.item(0, 2, 0, 0);
        for (int i = 0; i < 5; i++) x.item(0, 1, 2, 0);
        for (int i = 0; i < 6; i++) x.sheet(0, 1, -1);
        for (int i = 0; i < 7; i++) x.land();
        Check.due("P39 NOT", x.status(1), 1);
        Check.due("P39 FULL", x.status(2), 1);
        Check.due("P39 NONE", x.status(3), 3);
        Check.due("P39 NULL", x.status(4), 2);
        Check.due("P39 CAST", x.status(5), 4);
        Check.due("P39 INDEX", x.status(6), 5);
        Check.due("P39 SIZE", x.status(7), 6);
        Check.due("P39 FAULTS", x.status(8), 7);
        Check.due("P39 BAD", x.status(0), 2);
    }
}
