/** The Terms on TEAMS, CALLS, JOBS, and promises 19 to 27: what each sentence asks at the edges that it names. */
final class TeamEdgesTest {
    private static final long ALL = Edges.ALL;
    /** All of them sit in CELL 0, MINUTE 1. */
    private static final String SAT_DOWN = "rules \"a0l0r0b0\"; start 0 0; night 1 = 1; parts 0 4 = ALL";
    /** ALIVE to MINUTE 60, then 11 less each. */
    private static final String SOON_COLD = "set 6 0; set 7 9; alive 60 = 1000; alive 61 = 989";
    private static final String NONE_LEFT = "11x call 143 0 15; odds 0 0 = NONE";
    /** MINUTE 1: a half go in CELL 1, a quarter in CELL 12, a quarter sit in CELL 0. */
    private static final String ONE_MINUTE = "start 0 0; night 1; parts 1 1 = ALL/2; parts 12 2 = ALL/4; parts 0 4 = ALL/4";

    public static void main(String[] args) {
        pace();
        value();
        whom();
        bound();
        again();
        slipAndTrust();
        aCall();
        truly();
        jobs();
        order();
        team();
        place();
        whomRefuses();
        boundRefuses();
        againRefuses();
        callRefuses();
        trulyRefuses();
        job();
        orderRefuses();
        Edges.eachIsTested(19, 27);
        Check.close();
    }

    private static void pace() {
        String sentence = "a PACE (1 .. 9 MINUTES a CELL, by rows and columns)";
        // From 143 to 0: 11 rows and 11 columns, 9 MINUTES each: 198.
        Edges.terms(sentence, "start 0 0; place 0; team 0 143 9; set 8 198; bound = ALL*6/16*1000; set 8 199; bound = ALL*12/16*1000");
        Edges.terms(sentence, "start 0 0; place 0; team 0 143 1; set 8 22; bound = ALL*6/16*1000; set 8 23; bound = ALL*12/16*1000");
        Edges.terms(sentence, "start 11 0; place 11; team 0 0 1; set 8 11; bound = ALL*6/16*1000; set 8 12; bound = ALL*12/16*1000");
        Edges.terms(sentence, "start 132 0; place 132; team 0 0 1; set 8 11; bound = ALL*6/16*1000; set 8 12; bound = ALL*12/16*1000");
        Edges.terms(sentence, "team 0 0 0 = BAD; team 0 0 10 = BAD; team 0 0 1 = 0; team 0 0 9 = 1");
        Edges.terms("TEAMS 0 .. 3 have a SORT, a CELL", "team 4 0 1 = BAD; team -1 0 1 = BAD; team 0 144 1 = BAD; team 0 -1 1 = BAD; team 0 0 1 = 0; team 3 143 1 = 1",
            "team 0 0 1 = 2; team 0 0 1 = 3; team 0 0 1 = FULL; count 1 = 4");
        Edges.terms("PLACES 0 .. 5 are CELLS.", "place -1 = BAD; place 144 = BAD; place 0 = 0; place 143 = 1; place 2 = 2; place 3 = 3",
            "place 4 = 4; place 5 = 5; place 6 = FULL; count 2 = 6");
    }

    private static void value() {
        String sentence = "(as of the MINUTE in which it comes: now and its way; DARK, DEW by that) times ALIVE then";
        // No way at all: now.
        Edges.terms(sentence, SAT_DOWN, "place 0; team 0 0 9; set 8 1; bound = ALL*6/16*1000; set 8 2; bound = ALL*12/16*1000");
        Edges.terms(sentence, SAT_DOWN, "place 0; team 1 1 9; set 9 10; bound = ALL*6/16*1000; set 9 11; bound = ALL*12/16*1000");
        Edges.terms(sentence, "start 0 0; place 0; team 1 10 6", SOON_COLD, "bound = ALL*12/16*1000; whom -1 = ALL*12/16*1000");
        Edges.terms(sentence, SAT_DOWN, "place 0; team 1 10 6", SOON_COLD, "bound = ALL*12/16*989; whom -1 = ALL*12/16*989");
        // It comes in MINUTE 1197; nobody is ALIVE, but no less than nobody.
        Edges.terms(sentence, SAT_DOWN, "16x night 60; night 38 = 999; place 0; team 2 143 9; bound = 0; whom -1 = 0; whom 0 = 0");
    }

    private static void whom() {
        String sentence = "each TEAM goes to one PLACE or none, no two to one: the most VALUE together";
        Edges.terms(sentence, "start 0 0; place 0; 4x team 1 0 1; whom -1 = ALL*12/16*1000; whom 0 = 0; whom 1 = 6; whom 2 = 6; whom 3 = 6");
        Edges.terms(sentence, "start 0 0; place 0; team 3 0 1; team 1 0 1; team 2 0 1; whom -1 = ALL*14/16*1000; whom 0 = 6; whom 2 = 0");
        // ASKERS see 2, a DOG 12 of each: 12 of the half and 2 of the quarter are more than 2 and 12.
        Edges.terms(sentence, ONE_MINUTE, "place 1; place 12; team 3 0 1; team 1 0 1; whom 0 = 1; whom 1 = 0",
            "whom -1 = " + (ALL / 2 / 16 * 12 + ALL / 4 / 16 * 2) * 1000);
        String like = "of like ones the first as a row of PLACES (6: none)";
        Edges.terms(like, "start 99 0; place 0; place 1; place 2; place 3; place 4; place 5; 4x team 0 0 1; whom -1 = 0",
            "whom 0 = 0; whom 1 = 1; whom 2 = 2; whom 3 = 3");
        Edges.terms(like, "start 5 0; place 0; place 5; 3x team 2 0 1; whom -1 = ALL*14/16*1000; whom 0 = 0; whom 1 = 1; whom 2 = 6");
        Edges.terms(like, "start 0 0; 2x team 0 0 1; whom -1 = 0; whom 0 = 6; whom 1 = 6");
        Edges.terms(like, ONE_MINUTE, "search 1 1; place 12; place 0; 2x team 2 6 1; whom 0 = 0; whom 1 = 1");
    }

    private static void bound() {
        String sentence = "BOUND: of each TEAM its greatest VALUE, together.";
        Edges.terms(sentence, "start 0 0; 4x team 1 0 1; bound = 0; place 5; bound = 0; place 0; bound = " + 4 * (ALL * 12 / 16 * 1000));
        Edges.terms(sentence, ONE_MINUTE, "team 1 0 1; team 3 0 1; place 12; place 1; bound = " + (ALL / 2 / 16 * 14) * 1000);
    }

    private static void again() {
        String sentence = "of CELLS SEARCHED that where it would SEE most now, of like ones the first";
        Edges.terms(sentence, "start 50 0; search 0 143; again 0 0 = 143; search 0 9; again 0 0 = 9; search 3 50; again 0 0 = 50");
        Edges.terms(sentence, "start 143 0; search 3 143; search 0 0; again 0 0 = 143; search 1 0; search 1 142; again 1 0 = 143");
        String line = "LINE: whether that is more than in any not SEARCHED";
        Edges.terms(line, "start 50 0; search 0 0; again 0 1 = 0; search 3 50; again 0 1 = 1");
        // As much in one that is not SEARCHED is not more.
        Edges.terms(line, ONE_MINUTE, "kind 1 3; kind 12 3; search 1 12; kind 12 0; again 1 0 = 12; again 1 1 = 0; search 3 0; again 1 1 = 1");
        Edges.terms(line, "start 50 0; kind 50 3; search 1 50; again 1 1 = 0; kind 50 0; again 1 1 = 1");
        Edges all = Edges.terms(line, "start 50 0");
        for (int cell = 0; cell < 144; cell++) all.run("search 3 " + cell);
        all.run("count 6 = 144; again 1 0 = 50; again 1 1 = 1; again 3 1 = 1; kind 50 3; again 1 0 = 0; again 1 1 = 1");
    }

    private static void slipAndTrust() {
        String sentence = "A CALL tells a CELL, a SLIP (0 .. 9), t sixteenths (0 .. 15) of trust";
        Edges.terms(sentence, "start 0 0; call 0 10 0 = BAD; call 0 -1 0 = BAD; call 0 0 16 = BAD; call 0 0 -1 = BAD; call 143 0 0 = 1000; call 143 9 15 = 62");
        Edges.terms(sentence, "start 0 0; truly 0 10 0 0 = BAD; truly 0 -1 0 0 = BAD; truly 0 0 16 0 = BAD; truly 0 0 -1 0 = BAD; truly 0 0 0 1 = 1; truly 0 9 15 1 = 113");
    }

    private static void aCall() {
        String farther = "PARTS of CELLS farther from it than SLIP (by rows or columns, the greater)";
        // 15 sixteenths go: 62 of 1000 are left.
        Edges.terms(farther, "start 0 0; call 0 0 15 = 1000; call 1 0 15 = 62; call 12 0 15 = 62; call 13 0 15 = 62");
        Edges.terms(farther, "start 0 0; call 9 9 15 = 1000; call 108 9 15 = 1000; call 117 9 15 = 1000; call 10 9 15 = 62");
        Edges.terms(farther, "start 0 0; call 120 9 15 = 62; call 118 9 15 = 62; call 129 9 15 = 62; parts 0 5 = ALL/16/16/16");
        Edges.terms(farther, "start 143 0; call 134 9 15 = 1000; call 35 9 15 = 1000; call 133 9 15 = 62; call 23 9 15 = 62");
        // Not round: CELL 12 is beside 11 by numbers alone.
        Edges.terms(farther, "start 11 0; call 12 1 15 = 62; call 10 1 15 = 1000; call 22 1 15 = 1000; call 21 1 15 = 62");
        String left = "are (16 less t) sixteenths of what they were (each by itself, cut)";
        Edges.terms(left, "start 0 0; call 143 0 0 = 1000; parts 0 0 = ALL; call 143 0 1 = 937; parts 0 0 = ALL*15/16");
        Edges.terms(left, "start 0 0; 10x call 143 0 15 = 62; parts 0 0 = 1; call 143 0 0 = 1000; call 143 0 1 = 0; parts 0 0 = 0");
        Edges.terms(left, ONE_MINUTE, "9x call 143 0 15; parts 0 4 = 4; call 143 0 1; parts 0 4 = 3; parts 1 1 = 7; parts 12 2 = 3");
    }

    private static void truly() {
        String sentence = "NEAR times t times 144, by that and ALL times (16 less t) times how many CELLS are no farther; NEAR: PARTS of these.";
        // No farther than 0: 1 CELL, 144 by 144 and 15; than 1: 4 in a corner, 6 at an edge, 9.
        Edges.terms(sentence, "start 0 0; truly 0 0 1 0 = 48; truly 0 0 1 1 = 53; truly 0 1 1 0 = 12; truly 0 1 1 1 = 17");
        Edges.terms(sentence, "start 0 0; truly 1 1 1 0 = 8; truly 1 1 1 1 = 13; truly 12 1 1 0 = 8; truly 12 1 1 1 = 13");
        Edges.terms(sentence, "start 0 0; truly 13 1 1 0 = 16; truly 13 1 1 1 = 31; truly 2 1 15 0 = 0; truly 2 1 15 1 = 1");
        // No farther than 9: 100 CELLS from a corner, 120 from an edge, all 144 from the middle.
        Edges.terms(sentence, "start 0 0; truly 0 9 1 0 = 12; truly 0 9 1 1 = 137; truly 6 9 1 0 = 2; truly 6 9 1 1 = 27");
        Edges.terms(sentence, "start 0 0; truly 66 9 0 0 = 0; truly 66 9 0 1 = 1; truly 66 9 15 0 = 15; truly 66 9 15 1 = 16");
        Edges.terms(sentence, "start 143 0; truly 143 9 1 0 = 12; truly 143 9 1 1 = 137; truly 11 9 1 0 = 0; truly 132 9 1 0 = 0");
        Edges.terms(sentence, "start 0 0; 10x call 143 0 15; parts 0 5 = 1; truly 0 0 1 0 = 48; truly 0 0 1 1 = 53");
        Edges.terms(sentence, ONE_MINUTE, "truly 1 0 4 0 = 24; truly 1 0 4 1 = 25");
    }

    private static void jobs() {
        String sentence = "each is worth what would be SEEN (by DARK, DEW as of when it begins; PARTS as now) times ALIVE when it ends";
        Edges.terms(sentence, "start 0 0; job 0 0 60; set 8 0; order -1 = ALL*6/16*1000; set 8 1; order -1 = ALL*12/16*1000");
        Edges.terms(sentence, "start 0 0; 2x job 0 0 10; set 8 10; order -1 = ALL*18/16*1000; set 8 11; order -1 = ALL*24/16*1000");
        Edges.terms(sentence, "start 0 0; 2x job 0 1 60; set 9 60; order -1 = ALL*18/16*1000; set 9 61; order -1 = ALL*24/16*1000");
        Edges.terms(sentence, SAT_DOWN, SOON_COLD, "job 0 1 59; order -1 = ALL*12/16*1000; clear; job 0 1 60; order -1 = ALL*12/16*989");
        // It ends in MINUTE 1059: nobody is ALIVE, but no less than nobody.
        Edges.terms(sentence, SAT_DOWN, "16x night 60; night 38 = 999; job 0 2 60; order -1 = 0; order 0 = 0");
        Edges.terms("JOBS 0 .. 5: a CELL, a SORT, MINUTES (1 .. 60): one behind the other, from now on",
            "job 0 0 0 = BAD; job 0 0 61 = BAD; job 0 0 1 = 0; job 143 3 60 = 1; 3x job 0 0 1; job 0 0 1 = 5; job 0 0 1 = FULL; count 3 = 6");
    }

    private static void order() {
        String sentence = "ORDER: that for which all together is most, of like ones the first as a row.";
        Edges.terms(sentence, "start 0 0; 6x job 9 0 60; order -1 = 0; order 0 = 0; order 1 = 1; order 2 = 2; order 3 = 3; order 4 = 4; order 5 = 5");
        Edges.terms(sentence, "start 0 0; job 0 2 30; order 0 = 0; order -1 = ALL*14/16*1000; order 1 = NONE");
        // JOB 0 finds nothing, so it goes last; 1 and 2 are alike. They end at 60 and 120: 1000 and 340.
        Edges.terms(sentence, "start 0 0", SOON_COLD, "job 9 2 60; job 0 2 60; job 0 2 60; order 0 = 1; order 1 = 2; order 2 = 0",
            "order -1 = " + ALL / 16 * 14 * 1340);
    }

    private static void team() {
        String sentence = "A TEAM: its number. BAD; FULL: 4.";
        Edges.edge(19, sentence, "team -1 0 1 = BAD; team 4 0 1 = BAD; team MIN 0 1 = BAD; team MAX 0 1 = BAD; team 0 -1 1 = BAD",
            "team 0 144 1 = BAD; team 0 MIN 1 = BAD; team 0 MAX 1 = BAD; team 0 0 0 = BAD; team 0 0 10 = BAD; team 0 0 MIN = BAD",
            "team 0 0 MAX = BAD; count 1 = 0; status 0 = 12");
        Edges.edge(19, sentence, "team 0 0 1 = 0; team 3 143 9 = 1; team 0 0 1 = 2; team 1 1 1 = 3; team 0 0 1 = FULL; count 1 = 4",
            "status 2 = 1; clear = 4; team 0 0 1 = 0");
    }

    private static void place() {
        String sentence = "A PLACE: its number. BAD; FULL: 6; NOT: that CELL is one.";
        Edges.edge(20, sentence, "place -1 = BAD; place 144 = BAD; place MIN = BAD; place MAX = BAD; count 2 = 0; status 0 = 4");
        Edges.edge(20, sentence, "place 143 = 0; place 143 = NOT; place 0 = 1; place 0 = NOT; place 143 = NOT; count 2 = 2; status 1 = 3");
        Edges.edge(20, sentence, "place 9 = 0; place 8 = 1; place 7 = 2; place 6 = 3; place 5 = 4; place 4 = 5; place 3 = FULL; place 4 = FULL",
            "count 2 = 6; status 2 = 2; status 1 = 0; clear = 6; place 4 = 0");
    }

    private static void whomRefuses() {
        String sentence = "VALUE together (-1), to which PLACE TEAM i goes (0 .. 3; 6: none). BAD; NOT: she has not gone out; NONE: there is no TEAM, no TEAM i.";
        Edges.edge(21, sentence, "whom -2 = BAD; whom 4 = BAD; whom MIN = BAD; whom MAX = BAD; whom -1 = NOT; whom 0 = NOT; whom 3 = NOT");
        Edges.edge(21, sentence, "team 0 0 1; whom -1 = NOT; whom 0 = NOT; whom 1 = NOT");
        Edges.edge(21, sentence, "start 0 0; whom -2 = BAD; whom 4 = BAD; whom -1 = NONE; whom 0 = NONE; whom 3 = NONE; place 0; whom -1 = NONE");
        Edges.edge(21, sentence, "start 0 0; team 0 0 1; whom -1 = 0; whom 0 = 6; whom 1 = NONE; whom 2 = NONE; whom 3 = NONE; whom 4 = BAD");
        Edges.edge(21, sentence, "start 0 0; place 0; 4x team 0 0 1; whom 3 = 6; whom 4 = BAD; whom -2 = BAD");
        Edges.edge(21, sentence, "start 0 0; place 0; team 1 0 1", NONE_LEFT, "whom -1 = 0; whom 0 = 0");
    }

    private static void boundRefuses() {
        String sentence = "BOUND. NOT: she has not gone out; NONE: there is no TEAM.";
        Edges.edge(22, sentence, "bound = NOT; team 0 0 1; place 0; bound = NOT; status 1 = 2");
        Edges.edge(22, sentence, "start 0 0; place 0; bound = NONE; team 1 0 1; bound = ALL*12/16*1000; status 3 = 1");
        Edges.edge(22, sentence, "start 0 0; place 0; team 1 0 1", NONE_LEFT, "bound = 0");
    }

    private static void againRefuses() {
        String sentence = "AGAIN for a SORT: the CELL (0), LINE (1; 1, 0). BAD; NOT: she has not gone out; NONE: none is SEARCHED.";
        Edges.edge(23, sentence, "again -1 0 = BAD; again 4 0 = BAD; again MIN 0 = BAD; again MAX 0 = BAD; again 0 -1 = BAD; again 0 2 = BAD",
            "again 0 MIN = BAD; again 0 MAX = BAD; again 0 0 = NOT; again 3 1 = NOT");
        Edges.edge(23, sentence, "start 0 0; again 0 0 = NONE; again 3 1 = NONE; search 1 0; again 1 0 = 0; again 3 1 = 1; again 4 0 = BAD");
        Edges.edge(23, sentence, "start 0 0; search 1 5", NONE_LEFT, "again 1 0 = 5; again 1 1 = 0; start 0 0; again 1 0 = NONE");
    }

    private static void callRefuses() {
        String sentence = "A CALL: thousandths of ALL that are left of it. BAD; NOT: she has not gone out; NONE: ALL are none.";
        Edges.edge(24, sentence, "call -1 0 0 = BAD; call 144 0 0 = BAD; call MIN 0 0 = BAD; call MAX 0 0 = BAD; call 0 -1 0 = BAD; call 0 10 0 = BAD",
            "call 0 MIN 0 = BAD; call 0 MAX 0 = BAD; call 0 0 -1 = BAD; call 0 0 16 = BAD; call 0 0 MIN = BAD; call 0 0 MAX = BAD",
            "call 0 0 0 = NOT; call 143 9 15 = NOT; status 0 = 12; status 1 = 2");
        Edges.edge(24, sentence, "start 0 0; call 0 0 0 = 1000; call 143 9 15 = 62; call 144 0 0 = BAD; parts 0 5 = ALL/16");
        Edges.edge(24, sentence, "start 0 0", NONE_LEFT, "call 0 0 0 = NONE; call 143 9 15 = NONE; call 0 0 16 = BAD; start 0 0; call 0 0 0 = 1000");
    }

    private static void trulyRefuses() {
        String sentence = "TRULY. BAD; NOT: she has not gone out; NONE: ALL are none.";
        Edges.edge(25, sentence, "truly -1 0 0 0 = BAD; truly 144 0 0 0 = BAD; truly MIN 0 0 0 = BAD; truly MAX 0 0 0 = BAD; truly 0 -1 0 0 = BAD",
            "truly 0 10 0 0 = BAD; truly 0 MIN 0 0 = BAD; truly 0 MAX 0 0 = BAD; truly 0 0 -1 0 = BAD; truly 0 0 16 0 = BAD",
            "truly 0 0 MIN 0 = BAD; truly 0 0 MAX 0 = BAD; truly 0 0 0 -1 = BAD; truly 0 0 0 2 = BAD; truly 0 0 0 MIN = BAD",
            "truly 0 0 0 MAX = BAD; truly 0 0 0 0 = NOT; truly 143 9 15 1 = NOT");
        Edges.edge(25, sentence, "start 143 0; truly 143 9 15 1 = 113; truly 143 10 15 1 = BAD; parts 143 5 = ALL");
        Edges.edge(25, sentence, "start 0 0", NONE_LEFT, "truly 0 0 0 0 = NONE; truly 143 9 15 1 = NONE; truly 0 0 0 2 = BAD");
    }

    private static void job() {
        String sentence = "A JOB: its number. BAD; FULL: 6.";
        Edges.edge(26, sentence, "job -1 0 1 = BAD; job 144 0 1 = BAD; job MIN 0 1 = BAD; job MAX 0 1 = BAD; job 0 -1 1 = BAD; job 0 4 1 = BAD",
            "job 0 MIN 1 = BAD; job 0 MAX 1 = BAD; job 0 0 0 = BAD; job 0 0 61 = BAD; job 0 0 MIN = BAD; job 0 0 MAX = BAD",
            "count 3 = 0; status 0 = 12");
        Edges.edge(26, sentence, "job 0 0 1 = 0; job 143 3 60 = 1; job 0 0 1 = 2; job 0 0 1 = 3; job 0 0 1 = 4; job 0 0 1 = 5; job 0 0 1 = FULL",
            "count 3 = 6; status 2 = 1; clear = 6; job 0 0 1 = 0");
    }

    private static void orderRefuses() {
        String sentence = "ORDER: all it is worth (-1), the i-th JOB (0 .. 5). BAD; NOT: she has not gone out; NONE: there is no JOB, no i-th.";
        Edges.edge(27, sentence, "order -2 = BAD; order 6 = BAD; order MIN = BAD; order MAX = BAD; order -1 = NOT; order 5 = NOT; job 0 0 1; order 0 = NOT");
        Edges.edge(27, sentence, "start 0 0; order -1 = NONE; order 0 = NONE; order 5 = NONE; order 6 = BAD; order -2 = BAD");
        Edges.edge(27, sentence, "start 0 0; job 0 1 1; order 0 = 0; order 1 = NONE; order 5 = NONE; order -1 = ALL*12/16*1000");
        Edges.edge(27, sentence, "start 0 0; 6x job 0 1 1; order 5 = 5; order 6 = BAD; status 3 = 0");
        Edges.edge(27, sentence, "start 0 0; job 0 1 1", NONE_LEFT, "order -1 = 0; order 0 = 0");
    }
}
