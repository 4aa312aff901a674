/** The Terms on THE LAND, A MINUTE and SEARCHES: what each sentence asks at the edges that it names. */
final class MinuteEdgesTest {
    private static final long ALL = Edges.ALL;
    /** She goes to and fro between CELLS 0 and 1, and nobody sits down there. */
    private static final String TO_AND_FRO = "kind 2 3; kind 12 3; kind 13 3; rules \"a1l0r0b1\" = 4; sits 0 0; sits 6 0";
    /** Who stands at a STOP in a MINUTE of buses rides, all of them; who stands elsewhere sits down. */
    private static final String ALL_RIDE = "rules \"a0l0r0b0d9\" = 5; sits 0 0; sits 6 0";
    /** After two MINUTES 2^36 face each SIDE in CELL 65; after 9 CALLS one of each. */
    private static final String ONE_BY_SIDE = "sits 0 0; rules \"a1l1r1b1\"; start 65 0; night 2; 9x call 143 0 15";

    public static void main(String[] args) {
        land();
        settings();
        start();
        whereNobodyGoes();
        noWayRound();
        barred();
        leftOfUp();
        drawn();
        sitDown();
        tire();
        buses();
        nextStop();
        cutOrNone();
        allAtOnce();
        sight();
        sightOfThoseThatSit();
        aSearch();
        bySideAlone();
        alive();
        Edges.eachIsTested(0, 0);
        Check.close();
    }

    private static void land() {
        String cells = "THE LAND has 12 ROWS of 12 CELLS (0 .. 143: 12 ROW and COLUMN).";
        Edges.terms(cells, "land \"o9o2p/w/m/m/m/m/m/m/m/m/m/h9h2e\" = 34; told 11 0 = 1; told 12 0 = 2; told 13 0 = 0",
            "told 131 0 = 0; told 132 0 = 5; told 142 0 = 5; told 143 0 = 7; told 144 0 = BAD; told -1 0 = BAD");
        Edges.terms("SIDES: 0 up, 1 right, 2 down, 3 left.", ALL_RIDE + "; start 0 -1 = BAD; start 0 4 = BAD",
            "set 0 1; start 65 0; night 1; parts 53 0 = ALL; start 65 1; night 1; parts 66 1 = ALL",
            "start 65 2; night 1; parts 77 2 = ALL; start 65 3; night 1; parts 64 3 = ALL");
        Edges.terms("A CELL is of a KIND: 0 OPEN (at first), below it 1 PATH, 2 WOOD, 3 WALL, 4 WATER, 5 HEDGE, 6 STOP (of a bus), 7 HOUSE",
            "told 0 0 = 0; told 143 0 = 0; kind 0 7 = 0; kind 0 0 = 7; kind 0 8 = BAD; kind 0 -1 = BAD; count 7 = 0; count 8 = 0",
            "kind 1 6; count 7 = 1; kind 2 7; count 8 = 1; kind 3 3; kind 4 4; start 3 0 = NOT; start 4 0 = NOT; start 5 0 = 1");
        Edges.terms("it has a DRAW (0 .. 9; 0 at first)", "told 0 1 = 0; told 143 1 = 0; draw 143 9 = 0; draw 143 10 = BAD",
            "draw 143 -1 = BAD; draw 143 0 = 9; told 143 1 = 0");
    }

    private static void settings() {
        int[] first = {8, 3, 2, 1, 2, 4};
        String nine = "SETTINGS, at first: 0 AHEAD 8, 1 LEFT 3, 2 RIGHT 2, 3 BACK 1, 4 TIRE 2, 5 RIDE 4 (0 .. 9 each)";
        for (int what = 0; what < 6; what++) setting(nine, what, first[what], 9);
        String six = "6 CLOTHES 1 (0 .. 3), 7 COLD 4 (0 .. 9)";
        setting(six, 6, 1, 3);
        setting(six, 7, 4, 9);
        String minutes = "8 DARK 0, 9 DEW 240 (0 .. 999: a MINUTE)";
        setting(minutes, 8, 0, 999);
        setting(minutes, 9, 240, 999);
        int[] sits = {1, 0, 3, 0, 0, 9, 2, 2};
        for (int kind = 0; kind < 8; kind++) {
            Edges.terms("SITS of KINDS (0 .. 9 each), at first: 1 0 3 0 0 9 2 2.", "sits " + kind + " 10 = BAD",
                "sits " + kind + " -1 = BAD; sits " + kind + " 9 = " + sits[kind] + "; sits " + kind + " 0 = 9; sits " + kind + " 0 = 0");
        }
    }

    private static void setting(String sentence, int what, int first, int highest) {
        String set = "set " + what + " ";
        Edges.terms(sentence, set + (highest + 1) + " = BAD; " + set + "-1 = BAD; " + set + highest + " = " + first,
            set + "0 = " + highest + "; " + set + "0 = 0");
    }

    private static void start() {
        String sentence = "By start() all 2^40 of them are GOING in one CELL, it is MINUTE 0 (the last one is 999), nothing is SEARCHED.";
        Edges.terms(sentence, "start 0 2; parts 0 2 = ALL; parts 0 5 = ALL; odds 0 1 = 1; where 0 = 0; where 1 = NONE; count 0 = 0");
        Edges.terms(sentence, "start 0 2; night 60; search 1 0; search 1 0; search 0 99; call 50 1 9; start 143 1 = 1; count 0 = 0",
            "parts 143 1 = ALL; parts 0 5 = 0; odds 143 0 = 1; odds 143 1 = 1; where 1 = NONE; count 6 = 0; told 0 2 = 0",
            "told 99 2 = 0; again 0 0 = NONE");
        Edges.terms(sentence, "start 0 2; 16x night 60; night 40 = FULL; night 39 = 999; night 1 = FULL; start 0 2 = 1; night 1 = 1");
        Edges.terms("ODDS of a CELL: its PARTS by ALL.", "start 0 0; night 1; odds 1 0 = 1; odds 1 1 = 2; odds 143 0 = 0; odds 143 1 = 1",
            "search 1 1; odds 1 0 = 1; odds 1 1 = 5; 12x call 143 0 15; odds 1 0 = NONE");
    }

    private static void whereNobodyGoes() {
        Edges.terms("PARTS that SIT stay.", "rules \"a0l0r0b0\"; start 0 0; night 1; parts 0 4 = ALL; rules \"a9l9r9b9d9\"; kind 0 6",
            "kind 99 6; night 60; night 60; night 60; parts 0 4 = ALL; parts 0 5 = ALL");
    }

    /** From each CELL just those beside it are reached: no way leads over an edge, nor round. */
    private static void noWayRound() {
        String sentence = "0, if there is none, or a WALL, WATER; then they face that way.";
        for (int from = 0; from < 144; from++) {
            Edges edges = Edges.terms(sentence, "start " + from + " 0; night 1");
            for (int to = 0; to < 144; to++) {
                int apart = Math.abs(from / 12 - to / 12) + Math.abs(from % 12 - to % 12);
                boolean reached = edges.answer("parts " + to + " 5") > 0;
                Check.due("no way round: from " + from + " to " + to, reached ? 1 : 0, apart <= 1 ? 1 : 0);
            }
        }
    }

    private static void barred() {
        int[] beside = {53, 66, 77, 64};
        int[] numbers = {8, 3, 2, 1};
        int[] turns = {0, 3, 1, 2};
        for (int kind = 3; kind <= 4; kind++) {
            for (int facing = 0; facing < 4; facing++) {
                for (int shut = 0; shut < 4; shut++) {
                    int closed = (facing + turns[shut]) % 4;
                    Edges edges = Edges.terms("0, if there is none, or a WALL, WATER; then they face that way.",
                        "kind " + beside[closed] + " " + kind + "; draw " + beside[closed] + " 9; start 65 " + facing + "; night 1",
                        "parts " + beside[closed] + " 5 = 0");
                    for (int way = 0; way < 4; way++) {
                        int side = (facing + turns[way]) % 4;
                        // 8, 3, 2, 1 without that which is shut, and 1 sits.
                        long due = way == shut ? 0 : ALL * numbers[way] / (15 - numbers[shut]);
                        edges.run("parts " + beside[side] + " " + side + " = " + due);
                    }
                }
            }
        }
    }

    private static void leftOfUp() {
        int[] beside = {53, 66, 77, 64};
        String[] ways = {"a", "l", "r", "b"};
        int[] turns = {0, 3, 1, 2};
        for (int facing = 0; facing < 4; facing++) {
            for (int way = 0; way < 4; way++) {
                int side = (facing + turns[way]) % 4;
                Edges.terms("AHEAD, to the LEFT, the RIGHT, BACK (of up the left is left, the right is right)",
                    "rules \"a0l0r0b0\"; rules \"" + ways[way] + "1\"; sits 0 0; start 65 " + facing + "; night 1",
                    "parts " + beside[side] + " " + side + " = ALL");
            }
        }
    }

    private static void drawn() {
        String sentence = "by the SETTING times (1 and DRAW of the CELL there)";
        // AHEAD 9, BACK 1, and 9 sit: 90, 1, 9 by 100 where CELL 53 draws most; 9, 1, 9 by 19 where nothing draws.
        String out = "rules \"a9l0r0b1\"; sits 0 9; start 65 0; draw 65 9; draw 64 9; draw 66 9";
        Edges.terms(sentence, out, "draw 53 9; night 1; parts 53 0 = ALL*90/100; parts 77 2 = ALL/100; parts 64 5 = 0; parts 66 5 = 0");
        Edges.terms(sentence, out, "draw 53 0; night 1; parts 53 0 = ALL*9/19; parts 77 2 = ALL/19; parts 64 5 = 0; parts 66 5 = 0");
        Edges.terms(sentence, out, "set 0 0; draw 53 9; draw 77 9; night 1; parts 53 5 = 0; parts 77 2 = ALL*10/19");
    }

    private static void sitDown() {
        String sentence = "Down sit: by SITS of the KIND";
        for (int kind = 0; kind < 8; kind++) {
            // Nobody would sit elsewhere; of the CELL that she leaves the KIND counts, not of that to which she goes.
            String out = "sits 0 0; sits 2 0; sits 5 0; sits 6 0; sits 7 0; rules \"a1l0r0b0d0\"; start 65 0; kind 65 " + kind;
            Edges.terms(sentence, out, "sits " + kind + " 9; night 1; parts 53 0 = ALL*1/10; parts 65 4 = " + (ALL - ALL / 10));
            Edges.terms(sentence, out, "sits " + kind + " 0; night 1; parts 53 0 = ALL; parts 65 4 = 0");
            if (kind == 0 || kind == 3 || kind == 4) continue;
            Edges.terms(sentence, out, "sits " + kind + " 9; kind 65 0; kind 53 " + kind + "; night 1; parts 53 0 = ALL");
        }
    }

    private static void tire() {
        String from = "from MINUTE 120 on TIRE more";
        Edges.terms(from, TO_AND_FRO, "start 0 1; night 60; night 60 = 120; where 1 = NONE; parts 0 3 = ALL");
        // From 120 on BACK 1 and TIRE 2: a third goes on each MINUTE.
        Edges.terms(from, TO_AND_FRO, "start 0 1; night 60; night 60 = 120; night 1 = 121; parts 1 1 = ALL*1/3",
            "parts 0 4 = " + (ALL - ALL / 3) + "; night 1 = 122; parts 0 3 = ALL*1/3/3; parts 1 4 = " + (ALL / 3 - ALL / 3 / 3));
        Edges.terms(from, TO_AND_FRO, "set 4 0; start 0 1; 3x night 60; where 1 = NONE; parts 0 3 = ALL");
        Edges.terms(from, TO_AND_FRO, "set 4 9; start 0 1; 2x night 60; night 1; parts 1 1 = ALL*1/10");
        String ahead = "(for TIRE, RIDE the number ahead of that counts; 0 is a number of 15s, too)";
        Edges.terms(ahead, TO_AND_FRO, "start 0 1; night 60; night 59 = 119; night 1 = 120; where 1 = NONE; night 1 = 121; where 1 = 0");
        Edges.terms(ahead, ALL_RIDE, "kind 0 6; kind 99 6; start 0 1; night 1 = 1; parts 99 1 = ALL; night 1 = 2; parts 99 4 = ALL");
    }

    /** At a STOP in a MINUTE: four of five ride if it is one of buses, all go to and fro if not. */
    private static void bus(String sentence, int minute, boolean rides) {
        String nights = minute / 60 > 0 ? "; " + minute / 60 + "x night 60" : "";
        if (minute % 60 > 0) nights += "; night " + minute % 60 + " = " + minute;
        Edges.terms(sentence, TO_AND_FRO + "; set 4 0; start " + (minute % 2 == 0 ? "0 1" : "1 3") + nights,
            "parts 0 3 = " + (minute == 0 ? 0 : ALL) + "; kind 0 6; kind 90 6; night 1",
            "parts 90 5 = " + (rides ? ALL * 4 / 5 : 0) + "; parts 1 1 = " + (rides ? ALL / 5 : ALL));
    }

    private static void buses() {
        String sentence = "On ride, from a STOP in each MINUTE that is a number of 15s: by RIDE";
        for (int minute = 0; minute <= 61; minute++) bus(sentence, minute, minute % 15 == 0);
        bus(sentence, 119, false);
        bus(sentence, 120, true);
        bus(sentence, 989, false);
        bus(sentence, 990, true);
        bus(sentence, 998, false);
        // RIDE 0: nobody; 1: as many as go BACK. From no STOP nobody rides.
        Edges.terms(sentence, TO_AND_FRO, "set 5 0; kind 0 6; kind 90 6; start 0 1; night 1; parts 1 1 = ALL; parts 90 5 = 0");
        Edges.terms(sentence, TO_AND_FRO, "set 5 1; kind 0 6; kind 90 6; start 0 1; night 1; parts 1 1 = ALL/2; parts 90 1 = ALL/2");
        for (int kind = 0; kind < 8; kind++) {
            if (kind == 3 || kind == 4 || kind == 6) continue;
            Edges.terms(sentence, TO_AND_FRO, "sits " + kind + " 0; kind 0 " + kind + "; kind 90 6; start 0 1; night 1; parts 1 1 = ALL");
        }
    }

    private static void nextStop() {
        String sentence = "to the next STOP by numbers (round; itself, if it is alone), facing as they do";
        int[] stops = {0, 7, 8, 143};
        for (int s = 0; s < 4; s++) {
            for (int side = 0; side < 4; side++) {
                Edges.terms(sentence, ALL_RIDE, "kind 7 6; kind 143 6; kind 0 6; kind 8 6; start " + stops[s] + " " + side,
                    "night 1; parts " + stops[(s + 1) % 4] + " " + side + " = ALL");
            }
        }
        for (int side = 0; side < 4; side++) {
            for (int alone = 0; alone < 144; alone += 143) {
                Edges.terms(sentence, ALL_RIDE, "kind " + alone + " 6; start " + alone + " " + side,
                    "night 1; parts " + alone + " " + side + " = ALL; night 1; parts " + alone + " 4 = ALL");
            }
        }
        // No WALL around it keeps a bus out.
        Edges.terms(sentence, ALL_RIDE, "kind 0 6; kind 143 6; kind 142 3; kind 131 3; start 0 1; night 1; parts 143 1 = ALL");
    }

    private static void cutOrNone() {
        long shares = ALL * 8 / 15 + ALL * 3 / 15 + ALL * 2 / 15 + ALL / 15;
        Edges.terms("what is cut sits down", "start 65 0; night 1; parts 65 4 = " + (ALL - shares));
        Edges.terms("what is cut sits down", "sits 0 0; rules \"a1l1r1b0\"; start 65 0; night 1; parts 53 0 = ALL*1/3; parts 65 4 = 1");
        // One PART goes on by itself, or sits down if its way is one of two.
        String one = "sits 0 0; start 0 1; 10x call 143 0 15; parts 0 1 = 1";
        Edges.terms("what is cut sits down", one, "rules \"a1l0r0b0\"; night 1; parts 1 1 = 1; where 0 = 1; where 1 = NONE; night 1; parts 2 1 = 1");
        Edges.terms("what is cut sits down", one, "rules \"a1l0r1b0\"; night 1; parts 0 4 = 1; where 0 = 0; where 1 = 0");
        String none = "if all are 0, all do";
        Edges.terms(none, "sits 0 0; rules \"a0l0r0b0\"; start 65 0; night 1; parts 65 4 = ALL; parts 65 5 = ALL");
        Edges.terms(none, "sits 0 0; kind 1 3; kind 12 4; start 0 0; night 1; parts 0 4 = ALL");
        Edges.terms(none, "sits 6 0; kind 0 6; kind 1 3; kind 12 3; set 5 0; start 0 0; night 1; parts 0 4 = ALL");
    }

    private static void allAtOnce() {
        String straight = "sits 0 0; rules \"a1l0r0b0\"; ";
        Edges.terms("All at once; then MINUTE is one more", straight + "start 60 1; night 1 = 1; parts 61 1 = ALL; night 1 = 2; parts 62 1 = ALL");
        Edges.terms("All at once; then MINUTE is one more", straight + "start 65 2; night 1; parts 77 2 = ALL");
        Edges.terms("All at once; then MINUTE is one more", straight + "start 70 3; night 1; parts 69 3 = ALL");
        Edges.terms("All at once; then MINUTE is one more", straight + "start 65 0; night 1; parts 53 0 = ALL; night 4; parts 5 0 = ALL");
    }

    /** What a SORT SEES of CELLS 0 .. 7, which are of KINDS 0 .. 7. */
    private static String sees(int sort, int what, int... sixteenths) {
        StringBuilder b = new StringBuilder();
        for (int kind = 0; kind < 8; kind++) {
            b.append(kind == 0 ? "" : "; ").append("sees ").append(sort).append(' ').append(kind).append(' ').append(what);
            b.append(" = ").append(sixteenths[kind]);
        }
        return b.toString();
    }

    private static void sight() {
        String out = "land \"opwmahse\" = 8; start 0 0";
        String walkers = "WALKERS 12 14 6 0 8 4 14 10, from DARK on half (cut)";
        Edges.terms(walkers, out, "set 8 10; night 9 = 9", sees(0, 0, 12, 14, 6, 0, 8, 4, 14, 10),
            "night 1 = 10", sees(0, 0, 6, 7, 3, 0, 4, 2, 7, 5), "night 1 = 11", sees(0, 0, 6, 7, 3, 0, 4, 2, 7, 5));
        Edges.terms(walkers, out, "set 8 0", sees(0, 0, 6, 7, 3, 0, 4, 2, 7, 5));
        Edges.terms(walkers, out, "set 8 999; 16x night 60; night 38 = 998; sees 0 0 0 = 12; night 1 = 999; sees 0 0 0 = 6");
        String dog = "a DOG 12 each, but of WALL, WATER 0, from DEW on half";
        Edges.terms(dog, out, "set 8 0; set 9 10; night 9 = 9", sees(1, 0, 12, 12, 12, 0, 0, 12, 12, 12),
            "night 1 = 10", sees(1, 0, 6, 6, 6, 0, 0, 6, 6, 6), "night 1 = 11", sees(1, 0, 6, 6, 6, 0, 0, 6, 6, 6));
        Edges.terms(dog, out, "set 9 0", sees(1, 0, 6, 6, 6, 0, 0, 6, 6, 6));
        Edges.terms(dog, out, "set 9 999; 16x night 60; night 38 = 998; sees 1 0 0 = 12; night 1 = 999; sees 1 0 0 = 6");
        // A SEARCH sees so, too, and takes so much away.
        String sitting = "rules \"a0l0r0b0\"; sits 0 0; start 0 0; night 9; parts 0 4 = ALL";
        Edges.terms(walkers, "set 8 10; set 9 0", sitting, "search 0 0 = 750; parts 0 4 = ALL*4/16; night 1; search 0 0 = 375; parts 0 4 = ALL*4/16*10/16");
        Edges.terms(dog, "set 8 0; set 9 10", sitting, "search 1 0 = 750; parts 0 4 = ALL*4/16; night 1; search 1 0 = 375; parts 0 4 = ALL*4/16*10/16");
        Edges.terms("EYES 14 14 4 0 10 8 10 0", out, "set 8 0; set 9 0; night 60", sees(2, 0, 14, 14, 4, 0, 10, 8, 10, 0));
        Edges.terms("ASKERS 2 8 2 0 0 2 12 10.", out, "set 8 0; set 9 0; night 60", sees(3, 0, 2, 8, 2, 0, 0, 2, 12, 10));
    }

    private static void sightOfThoseThatSit() {
        String out = "land \"opwmahse\" = 8; start 0 0";
        String sentence = "Of those that SIT: in WOOD, HEDGE half (cut); ASKERS none.";
        Edges.terms(sentence, out, "set 8 1", sees(0, 1, 12, 14, 3, 0, 8, 2, 14, 10));
        // WOOD: half of 6 in the dark, 3, half of that cut.
        Edges.terms(sentence, out, "set 8 0", sees(0, 1, 6, 7, 1, 0, 4, 1, 7, 5));
        Edges.terms(sentence, out, "set 9 1", sees(1, 1, 12, 12, 6, 0, 0, 6, 12, 12));
        Edges.terms(sentence, out, "set 9 0", sees(1, 1, 6, 6, 3, 0, 0, 3, 6, 6));
        Edges.terms(sentence, out, sees(2, 1, 14, 14, 2, 0, 10, 4, 10, 0));
        Edges.terms(sentence, out, sees(3, 1, 0, 0, 0, 0, 0, 0, 0, 0));
        // A SEARCH sees so, too: of a HEDGE EYES 8, of those that SIT there 4; ASKERS of those that SIT none.
        String satDown = "rules \"a0l0r0b0\"; kind 0 5; start 0 0; night 1; parts 0 4 = ALL";
        Edges.terms(sentence, satDown, "search 3 0 = 0; search 2 0 = 250; parts 0 4 = ALL*12/16; again 2 0 = 0; again 3 1 = 0; kind 0 0; search 3 0 = 0");
        Edges.terms(sentence, "kind 0 5; start 0 0; search 3 0 = 125; search 2 0 = 500; parts 0 0 = ALL*7/16; again 3 1 = 1");
    }

    private static void aSearch() {
        String sentence = "so many sixteenths (cut) are SEEN, and are none any more (if she is not found); it is SEARCHED once more.";
        // 16 PARTS, of which 12 are seen; 4, of which 3 are; 1, of which none is.
        Edges.terms(sentence, "start 0 0; 9x call 143 0 15; parts 0 0 = 16; search 1 0 = 750; parts 0 0 = 4; search 1 0 = 750",
            "parts 0 0 = 1; search 1 0 = 0; parts 0 0 = 1; told 0 2 = 3");
        // 15 sixteenths of 16: 15, of which 11 and a quarter would be seen.
        Edges.terms(sentence, "start 0 0; 9x call 143 0 15; call 143 0 1; parts 0 0 = 15; search 1 0 = 733; parts 0 0 = 4");
        Edges.terms(sentence, "start 0 0; search 0 143 = 0; told 143 2 = 1; search 0 143 = 0; told 143 2 = 2; count 6 = 1; parts 0 0 = ALL");
        // Of a WALL nothing is seen; it is SEARCHED all the same.
        Edges.terms(sentence, "start 0 0; kind 0 3; search 1 0 = 0; told 0 2 = 1; parts 0 0 = ALL");
    }

    private static void bySideAlone() {
        Edges.terms("(of each SIDE, of those that SIT, by itself)", ONE_BY_SIDE,
            "parts 65 0 = 1; parts 65 1 = 1; parts 65 2 = 1; parts 65 3 = 1; parts 65 4 = 0; search 1 65 = 0; parts 65 5 = 4");
        Edges.terms("(each by itself, cut)", ONE_BY_SIDE, "call 143 0 1 = 0; parts 65 5 = 0; odds 65 0 = NONE");
    }

    private static void alive() {
        String sentence = "1000 to MINUTE 240 and 60 CLOTHES less 20 COLD, then 2 and COLD less each MINUTE, 0 at least.";
        Edges.terms(sentence, "alive 0 = 1000; alive 220 = 1000; alive 221 = 994; alive 386 = 4; alive 387 = 0; alive 999 = 0");
        Edges.terms(sentence, "set 6 3; set 7 0; alive 420 = 1000; alive 421 = 998; alive 919 = 2; alive 920 = 0; alive 921 = 0");
        Edges.terms(sentence, "set 6 0; set 7 9; alive 60 = 1000; alive 61 = 989; alive 150 = 10; alive 151 = 0; alive 999 = 0");
        Edges.terms(sentence, "set 6 0; set 7 0; alive 240 = 1000; alive 241 = 998; alive 739 = 2; alive 740 = 0");
    }
}
