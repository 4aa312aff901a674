/** Promises 10 to 18: what each sentence asks at the edges that it names. Numbers are worked out by hand. */
final class NightEdgesTest {
    private static final String NONE_LEFT = "11x call 143 0 15; parts 0 5 = 0";
    /** MINUTE 1: a half go in CELL 1, a quarter in CELL 12, a quarter sit in CELL 0. */
    private static final String ONE_MINUTE = "start 0 0; night 1; parts 1 1 = ALL/2; parts 12 2 = ALL/4; parts 0 4 = ALL/4";
    private static final String LAST_MINUTE = "start 0 0; 16x night 60; night 39 = 999";

    public static void main(String[] args) {
        start();
        night();
        parts();
        odds();
        where();
        count();
        sees();
        search();
        alive();
        Edges.eachIsTested(10, 18);
        Check.close();
    }

    private static void start() {
        String sentence = "She goes out of a CELL, facing a SIDE: 1. BAD; NOT: it is a WALL, WATER.";
        Edges.edge(10, sentence, "start -1 0 = BAD; start 144 0 = BAD; start MIN 0 = BAD; start MAX 0 = BAD; start 0 -1 = BAD; start 0 4 = BAD",
            "start 0 MIN = BAD; start 0 MAX = BAD; count 0 = NONE; status 0 = 8; start 0 0 = 1; start 143 3 = 1");
        Edges.edge(10, sentence, "kind 9 3; start 9 0 = NOT; kind 9 4; start 9 0 = NOT; count 0 = NONE; status 1 = 2; kind 9 0; start 9 0 = 1");
        for (int kind = 0; kind < 8; kind++) {
            Edges.edge(10, sentence, "kind 143 " + kind + "; start 143 3 = " + (kind == 3 || kind == 4 ? "NOT" : "1"));
        }
        // She goes out as often as asked; all but the night and what is SEARCHED stays.
        Edges.edge(10, sentence, ONE_MINUTE, "search 0 1; draw 5 4; set 0 7; set 8 5; set 9 7; sits 2 6; kind 5 2; team 0 0 1; place 5; job 5 0 1; found 0 1 2; measure 1 2",
            "start 7 2 = 1; count 0 = 0; count 6 = 0; parts 7 2 = ALL; parts 1 1 = 0; parts 12 2 = 0; parts 0 4 = 0; told 5 1 = 4; told 5 0 = 2; set 0 8 = 7",
            "set 8 0 = 5; set 9 240 = 7; sits 2 3 = 6; count 1 = 1; count 2 = 1; count 3 = 1; count 4 = 1; count 5 = 1");
        // What is refused leaves the night as it is.
        Edges.edge(10, sentence, ONE_MINUTE, "search 0 5; kind 9 3; start 9 0 = NOT; start 9 4 = BAD; count 0 = 1; count 6 = 1; parts 1 1 = ALL/2");
    }

    private static void night() {
        String sentence = "n MINUTES (1 .. 60): which it is then. BAD; NOT: she has not gone out; FULL: behind 999.";
        Edges.edge(11, sentence, "night 0 = BAD; night 61 = BAD; night -1 = BAD; night MIN = BAD; night MAX = BAD; night 1 = NOT; night 60 = NOT; status 1 = 2");
        Edges.edge(11, sentence, "start 0 0; night 0 = BAD; night 61 = BAD; night MIN = BAD; night MAX = BAD; count 0 = 0; night 1 = 1; night 60 = 61");
        Edges.edge(11, sentence, "start 0 0; 15x night 60; night 60 = 960; night 60 = FULL; night 40 = FULL; count 0 = 960; night 39 = 999; night 1 = FULL",
            "night 60 = FULL; night 0 = BAD; night 61 = BAD; count 0 = 999; status 2 = 4");
        Edges.edge(11, sentence, "start 0 0", NONE_LEFT, "night 60 = 60; parts 0 5 = 0");
        // None of the MINUTES passes if not all do.
        Edges.edge(11, sentence, "rules \"a1l0r0b0\"; sits 0 0; start 0 0; 16x night 60; night 38 = 998; set 4 0; start 65 0; 16x night 60; night 38 = 998",
            "start 65 0; night 2 = 2; parts 41 0 = ALL; 16x night 60; night 60 = FULL; count 0 = 962");
    }

    private static void parts() {
        String sentence = "PARTS of a CELL: 0 .. 3 GOING, by SIDES, 4 SITTING, 5 together. BAD.";
        Edges.edge(12, sentence, "parts -1 0 = BAD; parts 144 0 = BAD; parts MIN 0 = BAD; parts MAX 0 = BAD; parts 0 -1 = BAD; parts 0 6 = BAD; parts 0 MIN = BAD",
            "parts 0 MAX = BAD; status 0 = 8; parts 0 0 = 0; parts 143 5 = 0");
        for (int side = 0; side < 4; side++) {
            Edges edges = Edges.edge(12, sentence, "start 143 " + side);
            for (int what = 0; what < 6; what++) edges.run("parts 143 " + what + " = " + (what == side || what == 5 ? "ALL" : "0"));
        }
        Edges.edge(12, sentence, "rules \"a0l0r0b0\"; start 0 1; night 1; parts 0 4 = ALL; parts 0 5 = ALL; parts 0 1 = 0");
    }

    private static void odds() {
        String sentence = "ODDS of a CELL. BAD; NONE: ALL are none.";
        Edges.edge(13, sentence, "odds -1 0 = BAD; odds 144 0 = BAD; odds MIN 0 = BAD; odds MAX 0 = BAD; odds 0 -1 = BAD; odds 0 2 = BAD; odds 0 MIN = BAD",
            "odds 0 MAX = BAD; odds 0 0 = NONE; odds 143 1 = NONE; status 0 = 8; status 3 = 2");
        Edges.edge(13, sentence, "start 0 0", NONE_LEFT, "odds 0 0 = NONE; odds 0 1 = NONE; odds 0 2 = BAD; start 0 0; odds 0 0 = 1; odds 0 1 = 1");
        Edges.edge(13, sentence, "start 0 0; 10x call 143 0 15; odds 0 0 = 1; odds 0 1 = 1; odds 143 0 = 0; odds 143 1 = 1");
    }

    private static void where() {
        String sentence = "The CELL that has most PARTS (0), of like ones the first; that with most SITTING (1). BAD; NONE: there are none.";
        Edges.edge(14, sentence, "where -1 = BAD; where 2 = BAD; where MIN = BAD; where MAX = BAD; where 0 = NONE; where 1 = NONE; status 0 = 4; status 3 = 2");
        Edges.edge(14, sentence, "start 143 0; where 0 = 143; where 1 = NONE; night 1; where 1 = 143; search 1 143; where 1 = 143");
        Edges.edge(14, sentence, "start 0 0", NONE_LEFT, "where 0 = NONE; where 1 = NONE; where 2 = BAD");
        // All four beside it have as many, and so have they that sit.
        Edges.edge(14, sentence, "rules \"a1l1r1b1\"; sits 0 0; start 65 0; night 1; where 0 = 53; where 1 = NONE; kind 53 3; where 0 = 53");
        Edges.edge(14, sentence, "rules \"a1l1r1b1\"; sits 0 0; start 65 0; night 1; rules \"a0l0r0b0\"; night 1; where 1 = 53; where 0 = 53; search 1 53; where 1 = 64; where 0 = 64");
    }

    private static void count() {
        String sentence = "How many: 0 MINUTE (NONE: she has not gone out), 1 TEAMS, 2 PLACES, 3 JOBS, 4 FOUND in THE BOOK, 5 MEASURES, 6 CELLS SEARCHED, 7 STOPS, 8 HOUSES. BAD.";
        Edges.edge(15, sentence, "count -1 = BAD; count 9 = BAD; count MIN = BAD; count MAX = BAD; count 0 = NONE; status 0 = 4; status 3 = 1; start 0 0; count 0 = 0");
        Edges.edge(15, sentence, LAST_MINUTE, "count 0 = 999; count 1 = 0; count 2 = 0; count 3 = 0; count 4 = 0; count 5 = 0; count 6 = 0; count 7 = 0; count 8 = 0");
        Edges.edge(15, sentence, "5x team 0 0 1; count 1 = 4; 7x job 0 0 1; count 3 = 6; 61x found 0 0 0; count 4 = 60; 9x measure 0 0; count 5 = 8",
            "place 0; place 0; count 2 = 1; place 1; place 2; place 3; place 4; place 5; place 6; count 2 = 6");
        Edges stops = Edges.edge(15, sentence);
        Edges houses = Edges.edge(15, sentence);
        Edges searched = Edges.edge(15, sentence, "start 0 0");
        for (int cell = 0; cell < 144; cell++) {
            stops.run("kind " + cell + " 6; count 7 = " + (cell + 1));
            houses.run("kind " + cell + " 7; count 8 = " + (cell + 1));
            searched.run("search 3 " + cell + "; search 3 " + cell + "; count 6 = " + (cell + 1));
        }
        stops.run("count 8 = 0");
        houses.run("count 7 = 0");
        searched.run("start 0 0; count 6 = 0");
    }

    private static void sees() {
        String sentence = "What a SORT SEES now of a CELL, in sixteenths: of those GOING (0), SITTING (1). BAD; NOT: she has not gone out.";
        Edges.edge(16, sentence, "sees -1 0 0 = BAD; sees 4 0 0 = BAD; sees MIN 0 0 = BAD; sees MAX 0 0 = BAD; sees 0 -1 0 = BAD; sees 0 144 0 = BAD",
            "sees 0 MIN 0 = BAD; sees 0 MAX 0 = BAD; sees 0 0 -1 = BAD; sees 0 0 2 = BAD; sees 0 0 MIN = BAD; sees 0 0 MAX = BAD",
            "sees 0 0 0 = NOT; sees 3 143 1 = NOT; status 0 = 12; status 1 = 2");
        Edges.edge(16, sentence, "start 0 0; sees 0 0 0 = 6; sees 3 143 0 = 2; sees 3 143 1 = 0; sees 4 0 0 = BAD; kind 143 7; sees 3 143 0 = 10");
        // She need not be anywhere for them to see.
        Edges.edge(16, sentence, "start 0 0", NONE_LEFT, "sees 2 0 0 = 14");
    }

    private static void search() {
        String sentence = "A SEARCH by a SORT: thousandths of ALL that are SEEN. BAD; NOT: she has not gone out; NONE: ALL are none.";
        Edges.edge(17, sentence, "search -1 0 = BAD; search 4 0 = BAD; search MIN 0 = BAD; search MAX 0 = BAD; search 0 -1 = BAD; search 0 144 = BAD",
            "search 0 MIN = BAD; search 0 MAX = BAD; search 0 0 = NOT; search 3 143 = NOT; count 6 = 0; status 0 = 8; status 1 = 2");
        Edges.edge(17, sentence, "start 0 0; search 1 0 = 750; search 1 143 = 0; search 1 144 = BAD; count 6 = 2; told 0 2 = 1; told 143 2 = 1; parts 0 0 = ALL/4");
        Edges.edge(17, sentence, "start 0 0", NONE_LEFT, "search 1 0 = NONE; search 1 143 = NONE; search 4 0 = BAD; told 0 2 = 0; count 6 = 0; status 3 = 2");
        // Of ALL as they were ahead of it: a dog sees three quarters of a half.
        Edges.edge(17, sentence, ONE_MINUTE, "search 1 1 = 375; search 1 1 = 150; search 1 12 = 352");
    }

    private static void alive() {
        Edges.edge(18, "ALIVE at a MINUTE (0 .. 999). BAD.", "alive -1 = BAD; alive 1000 = BAD; alive MIN = BAD; alive MAX = BAD; status 0 = 4; alive 0 = 1000; alive 999 = 0");
        // Whether she has gone out or not.
        Edges.edge(18, "ALIVE at a MINUTE (0 .. 999). BAD.", "alive 221 = 994; start 0 0; night 60; alive 221 = 994; alive 0 = 1000");
    }
}
