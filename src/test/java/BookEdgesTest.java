/** The Terms on THE BOOK, MEASURES and NET, and promises 28 to 39: what each sentence asks at the edges it names. */
final class BookEdgesTest {
    private static final long ALL = Edges.ALL;

    public static void main(String[] args) {
        theBook();
        shareOf();
        spanOf();
        heldOf();
        measures();
        leavesBy();
        leastFor();
        netOf();
        firstTen();
        found();
        share();
        span();
        held();
        measure();
        leaves();
        least();
        net();
        clear();
        image();
        restore();
        status();
        Edges.eachIsTested(28, 39);
        Check.close();
    }

    private static void theBook() {
        String sentence = "those FOUND 0 .. 59: an AGE (0 .. 3), how FAR (0 .. 99), a KIND of CELL.";
        Edges.terms(sentence, "found 0 0 0 = 1; found 3 99 7 = 2; span 0 4 = 0; span 3 4 = 99; share 7 0 = 1; share 7 1 = 5");
        Edges.terms(sentence, "found 4 0 0 = BAD; found -1 0 0 = BAD; found 0 100 0 = BAD; found 0 -1 0 = BAD; found 0 0 8 = BAD; found 0 0 -1 = BAD");
        Edges.terms(sentence, "59x found 0 0 0; found 0 99 0 = 60; found 0 0 0 = FULL; span 0 4 = 99; span 0 3 = 0");
    }

    private static void shareOf() {
        String sentence = "SHARE of a KIND: those and 1 by all and 8.";
        Edges.terms(sentence, "share 0 0 = 1; share 0 1 = 8; share 7 0 = 1; share 7 1 = 8");
        Edges.terms(sentence, "found 0 0 7 = 1; share 7 0 = 2; share 7 1 = 9; share 0 0 = 1; share 0 1 = 9");
        Edges.terms(sentence, "60x found 0 0 0; share 0 0 = 61; share 0 1 = 68; share 7 0 = 1; share 7 1 = 68");
    }

    private static void spanOf() {
        String sentence = "SPAN of an AGE: within how FAR q quarters of these were (as many as q times how many by 4, cut up).";
        // Of 1: 1 1 1 1; of 2: 1 1 2 2; of 3: 1 2 3 3; of 4: 1 2 3 4; of 5: 2 3 4 5.
        Edges.terms(sentence, "found 0 10 0; span 0 1 = 10; span 0 2 = 10; span 0 3 = 10; span 0 4 = 10",
            "found 0 20 0; span 0 1 = 10; span 0 2 = 10; span 0 3 = 20; span 0 4 = 20",
            "found 0 30 0; span 0 1 = 10; span 0 2 = 20; span 0 3 = 30; span 0 4 = 30",
            "found 0 40 0; span 0 1 = 10; span 0 2 = 20; span 0 3 = 30; span 0 4 = 40",
            "found 0 50 0; span 0 1 = 20; span 0 2 = 30; span 0 3 = 40; span 0 4 = 50");
        Edges.terms(sentence, "found 3 99 0; found 3 0 0; span 3 1 = 0; span 3 2 = 0; span 3 3 = 99; span 0 1 = NONE");
        // Of 60: 15 30 45 60.
        Edges.terms(sentence, "15x found 2 7 0; 15x found 2 8 0; 15x found 2 9 0; 15x found 2 6 0; span 2 1 = 6; span 2 2 = 7; span 2 3 = 8; span 2 4 = 9");
    }

    private static void heldOf() {
        String sentence = "HELD: of how many FAR is no more than the SPAN of 3 quarters of all others of that AGE (who has no others: not).";
        Edges.terms(sentence, "held = 0; found 0 0 0; held = 0; found 1 0 0; found 2 0 0; found 3 0 0; held = 0");
        Edges.terms(sentence, "found 0 5 0; found 0 5 0; held = 2; found 1 0 0; held = 2");
        Edges.terms(sentence, "found 0 5 0; found 0 6 0; held = 1; found 0 6 0; held = 3");
        // By 4 others, the third: 5 by (1 2 3 4) not, 4 by (1 2 3 5) not, 3 by (1 2 4 5), 2 by (1 3 4 5), 1.
        Edges.terms(sentence, "found 0 1 0; found 0 2 0; found 0 3 0; found 0 4 0; found 0 5 0; held = 3");
        Edges.terms(sentence, "60x found 3 99 0; held = 60");
    }

    private static void measures() {
        String sentence = "MEASURES 0 .. 7 at the door KEEP so many sixteenths, SHUT her in by so much (0 .. 15 each).";
        Edges.terms(sentence, "measure 16 0 = BAD; measure -1 0 = BAD; measure 0 16 = BAD; measure 0 -1 = BAD; measure 0 0 = 0; measure 15 15 = 1",
            "leaves 1 0 = 1; leaves 1 1 = 1; leaves 2 0 = 1; leaves 2 1 = 16; least 1 0 = 2; least 1 1 = 15");
        Edges.terms(sentence, "measure 1 1 = 0; 6x measure 1 1; measure 1 1 = 7; measure 1 1 = FULL; count 5 = 8");
    }

    private static void leavesBy() {
        String sentence = "LEAVES by a set: all (16 less KEEP) by 16, multiplied (the empty set: 1).";
        Edges.terms(sentence, "leaves 0 0 = 1; leaves 0 1 = 1; measure 15 0; leaves 0 0 = 1; leaves 0 1 = 1; leaves 1 1 = 16");
        // Eight times 1 by 16, eight times 15 by 16, eight times 1: 2^32 below, 15^8 above.
        Edges.terms(sentence, "8x measure 15 0; leaves 255 0 = 1; leaves 255 1 = 4294967296");
        Edges.terms(sentence, "8x measure 1 0; leaves 255 0 = 2562890625; leaves 255 1 = 4294967296");
        Edges.terms(sentence, "8x measure 0 0; leaves 255 0 = 1; leaves 255 1 = 1");
    }

    private static void leastFor() {
        String noMore = "LEAST: of sets by which LEAVES is no more than a sixteenths the one that SHUTS in least together";
        Edges.terms(noMore, "least 16 0 = 0; least 16 1 = 0; least 15 0 = NONE; measure 8 5; least 16 0 = 0; least 15 0 = 1; least 8 0 = 1; least 8 1 = 5");
        Edges.terms(noMore, "measure 8 5; least 7 0 = NONE; measure 9 6; least 7 0 = 2; least 8 0 = 1; least 4 0 = 3; least 4 1 = 11; least 3 0 = NONE");
        // 14 by 16 and 8 by 16: 7 of 16, just as much.
        Edges.terms(noMore, "measure 2 1; measure 8 1; least 7 0 = 3; least 6 0 = NONE; least 8 0 = 2; least 14 0 = 1");
        Edges.terms(noMore, "measure 15 9; measure 8 1; least 8 0 = 2; least 8 1 = 1; least 7 0 = 1; least 7 1 = 9; least 0 0 = NONE");
        Edges.terms(noMore, "8x measure 15 15; least 1 0 = 1; least 1 1 = 15; least 0 0 = NONE");
        String like = "of like ones the least set";
        Edges.terms(like, "measure 8 4; measure 8 4; measure 8 4; least 8 0 = 1; least 4 0 = 3; least 2 0 = 7; least 1 0 = NONE");
        Edges.terms(like, "measure 0 0; measure 8 3; measure 8 3; measure 12 6; least 8 0 = 2; least 4 0 = 6; least 4 1 = 6; least 16 0 = 0");
    }

    private static void netOf() {
        String sentence = "that k by which PARTS in these and all CELLS no farther than 1 (by rows or columns, the greater) are most";
        int[] houses = {0, 1, 6, 10, 11, 12, 13, 23, 65, 72, 83, 120, 130, 131, 132, 138, 142, 143};
        for (int house : houses) {
            for (int cell = 0; cell < 144; cell++) {
                boolean near = Math.abs(cell / 12 - house / 12) <= 1 && Math.abs(cell % 12 - house % 12) <= 1;
                Edges.terms(sentence, "kind " + house + " 7; start " + cell + " 0; net 1 -1 = " + (near ? ALL : 0));
            }
        }
        // No way round: corners and ends of ROWS.
        Edges.terms(sentence, "kind 0 7; start 13 0; net 1 -1 = ALL; start 11 0; net 1 -1 = 0; start 132 0; net 1 -1 = 0; start 143 0; net 1 -1 = 0");
        Edges.terms(sentence, "kind 143 7; start 130 0; net 1 -1 = ALL; start 132 0; net 1 -1 = 0; start 120 0; net 1 -1 = 0; start 0 0; net 1 -1 = 0");
        Edges.terms(sentence, "kind 11 7; start 22 0; net 1 -1 = ALL; start 12 0; net 1 -1 = 0; start 24 0; net 1 -1 = 0; start 0 0; net 1 -1 = 0");
        Edges.terms(sentence, "kind 132 7; start 121 0; net 1 -1 = ALL; start 131 0; net 1 -1 = 0; start 119 0; net 1 -1 = 0; start 143 0; net 1 -1 = 0");
        // What two hear of counts once; those that sit count, too.
        Edges.terms(sentence, "kind 0 7; kind 2 7; kind 24 7; kind 26 7; start 13 0; net 4 -1 = ALL; net 1 -1 = ALL; rules \"a0l0r0b0\"; night 1; net 4 -1 = ALL");
        String like = "of like ones the first as a row (the least first)";
        Edges.terms(like, "kind 143 7; kind 70 7; kind 9 7; net 1 0 = 9; net 2 0 = 9; net 2 1 = 70; net 3 2 = 143; net 3 -1 = 0");
        Edges.terms(like, "kind 0 7; kind 2 7; kind 99 7; start 99 0; net 1 0 = 99; net 2 0 = 0; net 2 1 = 99; net 3 0 = 0; net 3 1 = 2; net 3 2 = 99");
    }

    private static void firstTen() {
        String sentence = "NET of k (1 .. 4): of CELLS that are HOUSES, the first 10 of them by numbers";
        String ten = "land \"e9\" = 9; kind 100 7; kind 143 7; count 8 = 11; start ";
        Edges.terms(sentence, ten + "100 0; net 1 -1 = ALL; net 1 0 = 100; net 4 3 = 100; start 143 0; net 1 -1 = 0; net 4 -1 = 0; net 4 3 = 3");
        Edges.terms(sentence, ten + "143 0; kind 0 0; count 8 = 10; net 1 -1 = ALL; net 1 0 = 143; net 4 3 = 143");
        Edges.terms(sentence, "kind 5 7; net 0 -1 = BAD; net 5 -1 = BAD; net 1 -1 = 0; kind 6 7; kind 7 7; net 4 -1 = NONE; kind 8 7; net 4 -1 = 0");
    }

    private static void found() {
        String sentence = "One FOUND comes to THE BOOK: how many there are. BAD; FULL: 60.";
        Edges.edge(28, sentence, "found -1 0 0 = BAD; found 4 0 0 = BAD; found MIN 0 0 = BAD; found MAX 0 0 = BAD; found 0 -1 0 = BAD; found 0 100 0 = BAD",
            "found 0 MIN 0 = BAD; found 0 MAX 0 = BAD; found 0 0 -1 = BAD; found 0 0 8 = BAD; found 0 0 MIN = BAD; found 0 0 MAX = BAD",
            "count 4 = 0; status 0 = 12");
        Edges.edge(28, sentence, "found 0 0 0 = 1; found 0 0 0 = 2; 57x found 0 0 0; found 0 0 0 = 60; found 0 0 0 = FULL; found 3 99 7 = FULL",
            "count 4 = 60; status 2 = 2; clear = 60; found 3 99 7 = 1");
    }

    private static void share() {
        Edges.edge(29, "SHARE of a KIND. BAD.", "share -1 0 = BAD; share 8 0 = BAD; share MIN 0 = BAD; share MAX 0 = BAD; share 0 -1 = BAD",
            "share 0 2 = BAD; share 0 MIN = BAD; share 0 MAX = BAD; share 0 0 = 1; share 7 1 = 8; status 0 = 8");
    }

    private static void span() {
        String sentence = "SPAN of an AGE for q quarters (1 .. 4). BAD; NONE: there are none.";
        Edges.edge(30, sentence, "span -1 1 = BAD; span 4 1 = BAD; span MIN 1 = BAD; span MAX 1 = BAD; span 0 0 = BAD; span 0 5 = BAD; span 0 MIN = BAD",
            "span 0 MAX = BAD; span 0 1 = NONE; span 3 4 = NONE; status 0 = 8; status 3 = 2");
        Edges.edge(30, sentence, "found 1 0 0; span 0 1 = NONE; span 2 1 = NONE; span 1 1 = 0; span 1 4 = 0; clear = 1; span 1 1 = NONE");
    }

    private static void held() {
        Edges.edge(31, "HELD.", "held = 0; found 2 9 0; held = 0; found 2 9 0; held = 2; clear; held = 0; status 3 = 0");
    }

    private static void measure() {
        String sentence = "A MEASURE: its number. BAD; FULL: 8.";
        Edges.edge(32, sentence, "measure -1 0 = BAD; measure 16 0 = BAD; measure MIN 0 = BAD; measure MAX 0 = BAD; measure 0 -1 = BAD",
            "measure 0 16 = BAD; measure 0 MIN = BAD; measure 0 MAX = BAD; count 5 = 0; status 0 = 8");
        Edges.edge(32, sentence, "measure 0 0 = 0; measure 15 15 = 1; 5x measure 0 0; measure 0 0 = 7; measure 0 0 = FULL; count 5 = 8",
            "status 2 = 1; clear = 8; measure 0 0 = 0");
    }

    private static void leaves() {
        String sentence = "LEAVES by a set. BAD: also MEASURES that are not there.";
        Edges.edge(33, sentence, "leaves -1 0 = BAD; leaves MIN 0 = BAD; leaves MAX 0 = BAD; leaves 0 -1 = BAD; leaves 0 2 = BAD; leaves 0 MIN = BAD",
            "leaves 0 MAX = BAD; leaves 0 0 = 1; status 0 = 7");
        Edges.edge(33, sentence, "leaves 1 0 = BAD; measure 8 0; leaves 1 1 = 2; leaves 2 0 = BAD; leaves 3 0 = BAD; leaves 128 0 = BAD; leaves 256 0 = BAD");
        Edges.edge(33, sentence, "8x measure 0 0; leaves 255 1 = 1; leaves 256 1 = BAD; leaves 511 1 = BAD; leaves -256 1 = BAD; clear; leaves 1 1 = BAD");
    }

    private static void least() {
        String sentence = "LEAST for a sixteenths (0 .. 16): the set (0), how much it SHUTS in (1). BAD; NONE: by none.";
        Edges.edge(34, sentence, "least -1 0 = BAD; least 17 0 = BAD; least MIN 0 = BAD; least MAX 0 = BAD; least 16 -1 = BAD; least 16 2 = BAD",
            "least 16 MIN = BAD; least 16 MAX = BAD; least 16 0 = 0; least 16 1 = 0; least 0 0 = NONE; least 15 1 = NONE; status 3 = 2");
        Edges.edge(34, sentence, "8x measure 15 15; least 0 0 = NONE; least 0 1 = NONE; least 1 1 = 15; least 16 0 = 0");
    }

    private static void net() {
        String sentence = "NET of k: PARTS (-1), the i-th CELL (0 .. k less 1). BAD; NONE: there are fewer HOUSES.";
        Edges.edge(35, sentence, "net 0 -1 = BAD; net 5 -1 = BAD; net MIN -1 = BAD; net MAX -1 = BAD; net 1 -2 = BAD; net 1 1 = BAD; net 4 4 = BAD",
            "net 4 MIN = BAD; net 4 MAX = BAD; net 1 0 = NONE; net 1 -1 = NONE; net 4 3 = NONE; status 0 = 9; status 3 = 3");
        Edges.edge(35, sentence, "kind 3 7; net 1 0 = 3; net 1 1 = BAD; net 2 0 = NONE; net 2 1 = NONE; net 2 2 = BAD; kind 9 7; net 2 1 = 9; net 3 -1 = NONE");
        Edges.edge(35, sentence, "kind 3 7; kind 4 7; kind 5 7; net 4 0 = NONE; kind 6 7; net 4 3 = 6; net 4 -1 = 0; net 3 3 = BAD");
    }

    private static void clear() {
        String sentence = "TEAMS, PLACES, JOBS, MEASURES, THE BOOK go: how many, together.";
        Edges.edge(36, sentence, "clear = 0; team 0 0 1; clear = 1; place 0; clear = 1; job 0 0 1; clear = 1; measure 0 0; clear = 1; found 0 0 0; clear = 1; clear = 0");
        Edges.edge(36, sentence, "4x team 0 0 1; 6x job 0 0 1; 8x measure 0 0; 60x found 0 0 0; place 1; place 2; place 3; place 4; place 5; place 6",
            "clear = 84; count 1 = 0; count 2 = 0; count 3 = 0; count 4 = 0; count 5 = 0; clear = 0; team 0 0 1 = 0; place 1 = 0; job 0 0 1 = 0",
            "measure 0 0 = 0; found 0 0 0 = 1");
        Edges.edge(36, sentence, "start 0 0; night 1; search 1 1; kind 5 6; draw 5 7; sheet 0 0 1; clear = 0; count 0 = 1; count 6 = 1; told 5 0 = 6; told 5 1 = 7; drop 0 = 1");
    }

    private static void image() {
        String sentence = "All but SHEETS, THE TAPE, STATUS is kept as an IMAGE: 1.";
        Edges.edge(37, sentence, "image = 1; kind 9 3; start 0 0; restore = 1; told 9 0 = 0; count 0 = NONE; parts 0 5 = 0; night 1 = NOT; status 1 = 1");
        Edges.edge(37, sentence, "image = 1; kind 9 3; image = 1; kind 9 4; restore = 1; told 9 0 = 3; restore = 1; told 9 0 = 3");
        Edges.edge(37, sentence, "type \"op\"; sheet 0 0 3; told 0 9 = BAD; image = 1; type \"w\"; sheet 0 1 4; told 0 9 = BAD; restore = 1",
            "drop 0 = 4; status 0 = 2; land = 3; told 2 0 = 2");
        Edges.edge(37, sentence, "image = 1; type \"op\"; sheet 0 0 3; restore = 1; drop 0 = 3; drop 0 = NULL; land = 2; restore = 1; drop 0 = NULL; land = -20");
    }

    private static void restore() {
        String sentence = "All is as it was then: 1. NONE: there is none.";
        Edges.edge(38, sentence, "restore = NONE; kind 9 3; restore = NONE; told 9 0 = 3; image; restore = 1; status 3 = 2");
        Edges.edge(38, sentence, "start 0 0; night 60; search 0 0; 4x team 0 0 1; 60x found 0 0 0; 8x measure 0 0; 6x job 0 0 1; place 0; image = 1",
            "clear = 79; start 143 0; set 0 0; sits 0 9; restore = 1; count 0 = 60; count 1 = 4; count 2 = 1; count 3 = 6; count 4 = 60; count 5 = 8",
            "count 6 = 1; team 0 0 1 = FULL; found 0 0 0 = FULL; place 0 = NOT; set 0 0 = 8; sits 0 0 = 1");
        Edges.edge(38, sentence, "image; team 0 0 1; place 0; job 0 0 1; measure 0 0; found 0 0 0; restore = 1; clear = 0");
    }

    private static void status() {
        String sentence = "0 BAD, 1 NOT, 2 FULL, 3 NONE, 4 NULL, 5 CAST, 6 INDEX, 7 SIZE, 8 FAULTS. BAD (this counts, too).";
        Edges.edge(39, sentence, "status 0 = 0; status 9 = BAD; status 0 = 1; status -1 = BAD; status MIN = BAD; status MAX = BAD; status 0 = 4; status 0 = 4");
        String none = "status 0 = 0; status 1 = 0; status 2 = 0; status 3 = 0; status 4 = 0; status 5 = 0; status 6 = 0; status 7 = 0; status 8 = 0";
        Edges.edge(39, sentence, none);
        Edges.edge(39, sentence, "kind 144 0 = BAD", none.replace("status 0 = 0", "status 0 = 1"));
        Edges.edge(39, sentence, "night 1 = NOT", none.replace("status 1 = 0", "status 1 = 1"));
        Edges.edge(39, sentence, "5x team 0 0 1", none.replace("status 2 = 0", "status 2 = 1"));
        Edges.edge(39, sentence, "restore = NONE", none.replace("status 3 = 0", "status 3 = 1"));
        Edges.edge(39, sentence, "drop 0 = NULL", none.replace("status 4 = 0", "status 4 = 1"));
        Edges.edge(39, sentence, "sheet 0 0 1; item 0 1 0 0 = CAST", none.replace("status 5 = 0", "status 5 = 1"));
        Edges.edge(39, sentence, "sheet 0 0 1; item 0 0 1 0 = INDEX", none.replace("status 6 = 0", "status 6 = 1"));
        Edges.edge(39, sentence, "sheet 0 0 -1 = SIZE", none.replace("status 7 = 0", "status 7 = 1"));
        Edges.edge(39, sentence, "land = -20; rules \" a\" = -22", none.replace("status 8 = 0", "status 8 = 2"));
    }
}
