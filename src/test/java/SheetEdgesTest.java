/** SHEETS, and promises 40 to 45: what each sentence asks at the edges that it names. What a SHEET holds shows by finds. */
final class SheetEdgesTest {
    private static final int[] BITS = {8, 16, 32, 64};
    private static final String NONE_LEFT = "start 0 0; 11x call 143 0 15; parts 0 5 = 0";

    public static void main(String[] args) {
        lanes();
        sizes();
        finds();
        findsItems();
        findsAllOrNone();
        film();
        filmThousandths();
        sheet();
        drop();
        item();
        copy();
        copyOverItself();
        Edges.eachIsTested(40, 45);
        Check.close();
    }

    /** Puts items from the first on. */
    private static String put(int sheet, int lane, long... items) {
        StringBuilder b = new StringBuilder();
        for (int i = 0; i < items.length; i++) {
            b.append(i == 0 ? "" : "; ").append("item ").append(sheet).append(' ').append(lane).append(' ').append(i);
            b.append(' ').append(items[i]).append(" = 1");
        }
        return b.toString();
    }

    /** FAR is what an item of a LANE keeps of a number: as told from 0 to 99, or not. */
    private static void kept(int lane, long number, long far) {
        String asTold = far >= 0 && far <= 99 ? "finds 0 " + lane + " 0 1 = 1; span 0 4 = " + far : "finds 0 " + lane + " 0 1 = NOT";
        Edges.terms("a row of a LANE: 0 bytes, 1 shorts, 2 ints, 3 longs (all with a sign)", "sheet 0 " + lane + " 3", put(0, lane, 0, number, 0), asTold);
    }

    private static void lanes() {
        for (int lane = 0; lane < 4; lane++) {
            kept(lane, 99, 99);
            kept(lane, 100, 100);
            kept(lane, -1, -1);
            kept(lane, Long.MAX_VALUE, lane < 3 ? -1 : Long.MAX_VALUE);
            kept(lane, Long.MIN_VALUE, lane < 3 ? 0 : Long.MIN_VALUE);
            for (int other = 0; other < 3; other++) {
                // Just above the bits of a LANE: nothing of it stays; its sign: below 0; all its bits: -1.
                kept(lane, (1L << BITS[other]) + 5, lane <= other ? 5 : (1L << BITS[other]) + 5);
                kept(lane, 1L << BITS[other] - 1, lane < other ? 0 : lane == other ? -1 : 1L << BITS[other] - 1);
                kept(lane, (1L << BITS[other]) - 1, lane <= other ? -1 : (1L << BITS[other]) - 1);
            }
        }
    }

    private static void sizes() {
        String sentence = "sheets 0 .. 3: nothing (at first), or a row of a LANE";
        Edges.terms(sentence, "drop 0 = NULL; drop 1 = NULL; drop 2 = NULL; drop 3 = NULL; drop 4 = BAD; drop -1 = BAD");
        for (int sheet = 0; sheet < 4; sheet++) {
            for (int lane = 0; lane < 4; lane++) {
                String of = sheet + " " + lane + " ";
                Edges.terms("of 0 to 24 items", "sheet " + of + "0 = 0; item " + of + "0 0 = INDEX; sheet " + of + "24 = 24; item " + of + "23 0 = 1",
                    "item " + of + "24 0 = INDEX; sheet " + of + "25 = BAD; sheet " + of + "-1 = SIZE; drop " + sheet + " = 24");
            }
        }
    }

    private static void finds() {
        String sentence = "n FOUND (1 .. 8), three items each (AGE, FAR, KIND) of a SHEET, taken as a row of a LANE, from item i on, come to THE BOOK: how many there are.";
        Edges.edge(40, sentence, "finds -1 0 0 1 = BAD; finds 4 0 0 1 = BAD; finds MIN 0 0 1 = BAD; finds MAX 0 0 1 = BAD; finds 0 -1 0 1 = BAD; finds 0 4 0 1 = BAD",
            "finds 0 MIN 0 1 = BAD; finds 0 MAX 0 1 = BAD; finds 0 0 0 0 = BAD; finds 0 0 0 9 = BAD; finds 0 0 0 MIN = BAD; finds 0 0 0 MAX = BAD",
            "finds 0 0 0 1 = NULL; finds 3 3 0 8 = NULL; finds 0 0 -1 1 = NULL; status 0 = 12; status 4 = 3");
        for (int lane = 0; lane < 4; lane++) {
            String of = "0 " + lane + " ";
            Edges.edge(40, sentence, "sheet " + of + "24; finds " + of + "0 1 = 1; finds " + of + "0 8 = 9; finds " + of + "21 1 = 10; finds " + of + "22 1 = INDEX",
                "finds " + of + "1 8 = INDEX; finds " + of + "-1 1 = INDEX; finds " + of + "MIN 8 = INDEX; finds " + of + "MAX 8 = INDEX; finds " + of + "24 1 = INDEX",
                "finds 0 " + (lane + 1) % 4 + " 0 1 = CAST; finds 0 " + (lane + 3) % 4 + " -1 1 = CAST; count 4 = 10; status 6 = 6; status 5 = 2");
        }
        Edges.edge(40, sentence, "sheet 0 0 0; finds 0 0 0 1 = INDEX; sheet 0 0 2; finds 0 0 0 1 = INDEX; sheet 0 0 3; finds 0 0 0 1 = 1; finds 0 0 0 2 = INDEX");
    }

    private static void findsItems() {
        String sentence = "three items each (AGE, FAR, KIND)";
        Edges.edge(40, sentence, "sheet 0 1 7", put(0, 1, 9, 3, 99, 7, 0, 0, 0), "finds 0 1 1 2 = 2; span 3 4 = 99; span 0 4 = 0; share 7 0 = 1; share 7 1 = 5; share 0 0 = 1");
        Edges.edge(40, sentence, "sheet 0 1 6", put(0, 1, 1, 2, 3, 2, 1, 3), "finds 0 1 0 2 = 2; span 1 4 = 2; span 2 4 = 1; share 3 0 = 3; share 3 1 = 10; finds 0 1 1 1 = 3; span 2 4 = 3");
    }

    private static void findsAllOrNone() {
        String one = "NOT: one is not as told (none comes)";
        int[][] wrong = {{-1, 0, 0}, {4, 0, 0}, {0, -1, 0}, {0, 100, 0}, {0, 0, -1}, {0, 0, 8}};
        for (int[] items : wrong) {
            Edges.edge(40, one, "sheet 0 2 9", put(0, 2, 0, 0, 0, 0, 0, 0, items[0], items[1], items[2]), "finds 0 2 0 3 = NOT; count 4 = 0; finds 0 2 0 2 = 2; status 1 = 1");
            Edges.edge(40, one, "sheet 0 2 6", put(0, 2, items[0], items[1], items[2], 0, 0, 0), "finds 0 2 0 2 = NOT; count 4 = 0; finds 0 2 3 1 = 1");
        }
        Edges.edge(40, one, "sheet 0 3 3", put(0, 3, 4294967296L, 0, 0), "finds 0 3 0 1 = NOT", put(0, 3, 0, 4294967296L, 0), "finds 0 3 0 1 = NOT",
            put(0, 3, 0, 0, 4294967296L), "finds 0 3 0 1 = NOT; count 4 = 0; status 1 = 3");
        String room = "FULL: there is no room for all (none comes)";
        Edges.edge(40, room, "sheet 0 0 24; 7x finds 0 0 0 8; count 4 = 56; finds 0 0 0 5 = FULL; finds 0 0 0 8 = FULL; count 4 = 56; finds 0 0 0 4 = 60; finds 0 0 0 1 = FULL");
        Edges.edge(40, room, "sheet 0 0 24; 7x finds 0 0 0 8; 3x found 0 0 0; finds 0 0 0 2 = FULL; finds 0 0 0 1 = 60; finds 0 0 0 1 = FULL; finds 0 0 0 9 = BAD; clear = 60; finds 0 0 0 8 = 8");
    }

    private static void film() {
        String sentence = "Thousandths of ALL in 12 CELLS of a ROW come to a SHEET, taken as a row of a LANE, from item i on (their lowest bits): 12. BAD; NULL; CAST; INDEX; NONE: ALL are none.";
        Edges.edge(41, sentence, "start 0 0; film -1 0 0 0 = BAD; film 12 0 0 0 = BAD; film MIN 0 0 0 = BAD; film MAX 0 0 0 = BAD; film 0 -1 0 0 = BAD; film 0 4 0 0 = BAD",
            "film 0 MIN 0 0 = BAD; film 0 MAX 0 0 = BAD; film 0 0 -1 0 = BAD; film 0 0 4 0 = BAD; film 0 0 MIN 0 = BAD; film 0 0 MAX 0 = BAD",
            "film 0 0 0 0 = NULL; film 11 3 3 12 = NULL; film 0 0 0 -1 = NULL; status 0 = 12; status 4 = 3");
        for (int lane = 0; lane < 4; lane++) {
            String of = " 0 " + lane + " ";
            Edges.edge(41, sentence, "start 0 0; sheet" + of + "11; film 0" + of + "0 = INDEX; sheet" + of + "12; film 0" + of + "0 = 12; film 11" + of + "1 = INDEX",
                "film 0" + of + "-1 = INDEX; film 0" + of + "MIN = INDEX; film 0" + of + "MAX = INDEX; sheet" + of + "24; film 11" + of + "12 = 12; film 11" + of + "13 = INDEX",
                "film 0 0 " + (lane + 1) % 4 + " 0 = CAST; film 0 0 " + (lane + 3) % 4 + " 24 = CAST");
        }
        Edges.edge(41, sentence, "sheet 0 0 12; film 0 0 0 0 = NONE; film 0 0 0 1 = INDEX; film 0 0 1 0 = CAST; film 12 0 0 0 = BAD; start 0 0; film 0 0 0 0 = 12");
        Edges.edge(41, sentence, "sheet 0 0 12; item 0 0 1 77", NONE_LEFT, "film 0 0 0 0 = NONE; film 11 0 0 0 = NONE; finds 0 0 0 1 = 1; span 0 4 = 77");
    }

    private static void filmThousandths() {
        String sentence = "(their lowest bits): 12.";
        // In CELL 0 sit 6 of 16, 375 thousandths; to CELL 1 go 5 of 16, 312: in a byte 56.
        String sixteenths = "rules \"a0l0r5b5\"; sits 0 6; start 0 0; night 1; parts 0 4 = ALL*6/16; parts 1 5 = ALL*5/16";
        for (int lane = 0; lane < 4; lane++) {
            String of = "0 " + lane + " ";
            Edges.edge(41, sentence, sixteenths, "sheet " + of + "12; film 0 " + of + "0 = 12; item " + of + "0 0",
                "finds " + of + "0 1 = " + (lane == 0 ? "1; span 0 4 = 56" : "NOT"));
        }
        Edges.edge(41, "12 CELLS of a ROW come to a SHEET", "start 0 0; 10x call 143 0 15; parts 0 0 = 1; sheet 0 2 24; item 0 2 0 2; item 0 2 11 2; item 0 2 12 2",
            "film 11 0 2 0 = 12; finds 0 2 0 4 = 4; span 0 4 = 0; finds 0 2 12 1 = 5; span 2 4 = 0; film 0 0 2 0 = 12; finds 0 2 0 1 = NOT");
        // A sure CELL is 1000: in a byte -24, in others 1000; all others of its ROW are 0.
        for (int lane = 0; lane < 4; lane++) {
            String of = "0 " + lane + " ";
            Edges.edge(41, sentence, "start 14 0; sheet " + of + "24; film 1 " + of + "0 = 12; finds " + of + "0 1 = NOT; finds " + of + "3 7 = 7; item " + of + "2 0; finds " + of + "0 8 = 15",
                "film 0 " + of + "12 = 12; finds " + of + "12 4 = 19; film 1 " + of + "12 = 12; finds " + of + "12 1 = NOT; finds " + of + "15 3 = 22");
        }
    }

    private static void sheet() {
        String sentence = "A SHEET holds a new row of a LANE: n. BAD: also n above 24; SIZE: n below 0.";
        Edges.edge(42, sentence, "sheet -1 0 1 = BAD; sheet 4 0 1 = BAD; sheet MIN 0 1 = BAD; sheet MAX 0 1 = BAD; sheet 0 -1 1 = BAD; sheet 0 4 1 = BAD",
            "sheet 0 MIN 1 = BAD; sheet 0 MAX 1 = BAD; sheet 0 0 25 = BAD; sheet 0 0 MAX = BAD; sheet 4 0 -1 = BAD; sheet 0 4 -1 = BAD",
            "sheet 0 0 -1 = SIZE; sheet 0 0 MIN = SIZE; drop 0 = NULL; status 0 = 12; status 7 = 2");
        Edges.edge(42, sentence, "sheet 0 0 0 = 0; drop 0 = 0; sheet 3 3 24 = 24; drop 3 = 24; sheet 1 1 1 = 1; sheet 1 2 2 = 2; drop 1 = 2");
        // A row that is refused leaves the old one; a new row has zeros alone, and is of its own LANE.
        Edges.edge(42, sentence, "sheet 0 0 3", put(0, 0, 3, 88, 7), "sheet 0 0 25 = BAD; sheet 0 1 -1 = SIZE; finds 0 0 0 1 = 1; span 3 4 = 88; sheet 0 0 3 = 3; finds 0 0 0 1 = 2; span 0 4 = 0");
        Edges.edge(42, sentence, "sheet 0 0 3; sheet 0 1 2; item 0 0 0 0 = CAST; item 0 1 2 0 = INDEX; sheet 0 1 4; item 0 1 3 0 = 1");
    }

    private static void drop() {
        String sentence = "A SHEET holds nothing: how many items it had. BAD; NULL.";
        Edges.edge(43, sentence, "drop -1 = BAD; drop 4 = BAD; drop MIN = BAD; drop MAX = BAD; drop 0 = NULL; drop 3 = NULL; status 0 = 4; status 4 = 2");
        Edges.edge(43, sentence, "sheet 3 2 24; drop 3 = 24; drop 3 = NULL; sheet 3 2 0; drop 3 = 0; drop 3 = NULL; item 3 2 0 0 = NULL; copy 3 0 3 0 0 = NULL");
        Edges.edge(43, sentence, "sheet 0 2 5; sheet 1 2 6; drop 0 = 5; drop 1 = 6; sheet 0 2 3", put(0, 2, 1, 1, 1), "drop 0; sheet 0 2 3; finds 0 2 0 1 = 1; span 0 4 = 0");
    }

    private static void item() {
        String sentence = "Item i of a SHEET, taken as a row of a LANE, becomes v, its lowest bits: 1. BAD; NULL; CAST; INDEX.";
        Edges.edge(44, sentence, "item -1 0 0 0 = BAD; item 4 0 0 0 = BAD; item MIN 0 0 0 = BAD; item MAX 0 0 0 = BAD; item 0 -1 0 0 = BAD; item 0 4 0 0 = BAD",
            "item 0 MIN 0 0 = BAD; item 0 MAX 0 0 = BAD; item 0 0 0 0 = NULL; item 3 3 -1 0 = NULL; status 0 = 8; status 4 = 2");
        for (int lane = 0; lane < 4; lane++) {
            String of = "item 0 " + lane + " ";
            Edges.edge(44, sentence, "sheet 0 " + lane + " 3; " + of + "0 1 = 1; " + of + "2 1 = 1; " + of + "3 1 = INDEX; " + of + "-1 1 = INDEX; " + of + "MIN 1 = INDEX; " + of + "MAX 1 = INDEX",
                "item 0 " + (lane + 1) % 4 + " 0 0 = CAST; item 0 " + (lane + 2) % 4 + " 3 0 = CAST; item 0 " + (lane + 3) % 4 + " -1 0 = CAST; status 6 = 4; status 5 = 3",
                "finds 0 " + lane + " 0 1 = 1; span 1 4 = 0; share 1 0 = 2");
        }
        Edges.edge(44, sentence, "sheet 0 0 24; item 0 0 23 9 = 1; finds 0 0 21 1 = NOT; finds 0 0 0 7 = 7");
    }

    private static void copy() {
        String sentence = "n items of a SHEET from i on come to another one (or the same) from j on, as if all were taken ahead: n. BAD; NULL (either); CAST: of unlike LANES; INDEX (n below 0, too).";
        Edges.edge(45, sentence, "copy -1 0 0 0 0 = BAD; copy 4 0 0 0 0 = BAD; copy MIN 0 0 0 0 = BAD; copy MAX 0 0 0 0 = BAD; copy 0 0 -1 0 0 = BAD; copy 0 0 4 0 0 = BAD",
            "copy 0 0 MIN 0 0 = BAD; copy 0 0 MAX 0 0 = BAD; copy 0 0 1 0 0 = NULL; sheet 0 0 3; copy 0 0 1 0 0 = NULL; copy 1 0 0 0 0 = NULL; status 0 = 8; status 4 = 3");
        for (int from = 0; from < 4; from++) {
            for (int to = 0; to < 4; to++) {
                Edges.edge(45, sentence, "sheet 0 " + from + " 3; sheet 1 " + to + " 3; copy 0 0 1 0 3 = " + (from == to ? "3" : "CAST"));
            }
        }
        Edges.edge(45, sentence, "sheet 0 0 5; sheet 1 0 7; copy 0 0 1 0 5 = 5; copy 0 0 1 2 5 = 5; copy 0 0 1 3 5 = INDEX; copy 0 1 1 0 5 = INDEX; copy 0 0 1 0 6 = INDEX",
            "copy 0 4 1 6 1 = 1; copy 0 5 1 0 1 = INDEX; copy 0 0 1 7 1 = INDEX; copy 0 -1 1 0 1 = INDEX; copy 0 0 1 -1 1 = INDEX; copy 0 0 1 0 -1 = INDEX",
            "copy 0 0 1 0 MIN = INDEX; copy 0 0 1 0 MAX = INDEX; copy 0 1 1 0 MAX = INDEX; copy 0 0 1 1 MAX = INDEX; copy 0 MAX 1 0 1 = INDEX; copy 0 0 1 MAX 1 = INDEX",
            "copy 0 MIN 1 0 1 = INDEX; copy 0 0 1 MIN 1 = INDEX; copy 0 MAX 1 MAX MAX = INDEX; copy 0 MIN 1 MIN MIN = INDEX; status 6 = 18");
        Edges.edge(45, sentence, "sheet 0 3 3; sheet 1 3 4", put(0, 3, 3, 88, 7), "copy 0 0 1 1 3 = 3; finds 1 3 1 1 = 1; span 3 4 = 88; share 7 0 = 2; finds 0 3 0 1 = 2; item 0 3 1 99; finds 1 3 1 1 = 3; span 3 4 = 88");
        Edges.edge(45, sentence, "sheet 0 0 24; sheet 3 0 24; item 0 0 23 7; copy 0 0 3 0 24 = 24; finds 3 0 21 1 = 1; share 7 0 = 2; copy 3 23 0 0 1 = 1; finds 0 0 0 1 = NOT");
    }

    private static void copyOverItself() {
        String sentence = "(or the same) from j on, as if all were taken ahead";
        Edges.edge(45, sentence, "sheet 0 0 4", put(0, 0, 1, 88, 7, 0), "copy 0 0 0 1 3 = 3; finds 0 0 1 1 = 1; span 1 4 = 88; share 7 0 = 2; copy 0 1 0 0 3 = 3; finds 0 0 0 1 = 2; share 7 0 = 3");
        Edges.edge(45, sentence, "sheet 0 2 6", put(0, 2, 1, 88, 7, 0, 0, 0), "copy 0 0 0 3 3 = 3; finds 0 2 0 2 = 2; span 1 1 = 88; share 7 0 = 3; copy 0 0 0 0 6 = 6; finds 0 2 0 2 = 4");
    }
}
