/** The Terms on a LAND and a LAW as TEXTS, and promises 1 to 9: what each sentence asks at the edges that it names. */
final class LandEdgesTest {
    private static final String TWELVE_ROWS = "o/o/o/o/o/o/o/o/o/o/o/o";
    private static final String NOTHING = "told 0 0 = 0; told 0 1 = 0; count 7 = 0; count 8 = 0";

    public static void main(String[] args) {
        rows();
        digits();
        othersStay();
        laws();
        theFirstByte();
        blanks();
        theEnd();
        moreThanTwelve();
        aNewObject();
        kind();
        draw();
        told();
        set();
        sits();
        type();
        land();
        rules();
        Edges.eachIsTested(0, 9);
        Check.close();
    }

    private static void rows() {
        String sentence = "A LAND is a TEXT: 1 to 12 ROWS with / between, each one letter or more o p w m a h s e (KINDS in this order)";
        Edges.terms(sentence, "land \"opwmahse\" = 8; told 0 0 = 0; told 1 0 = 1; told 2 0 = 2; told 3 0 = 3; told 4 0 = 4; told 5 0 = 5; told 6 0 = 6; told 7 0 = 7");
        Edges.terms(sentence, "land = -20; land \"o\" = 1; land \"o/e\" = 2; told 12 0 = 7; land \"" + TWELVE_ROWS + "\" = 12; land \"" + TWELVE_ROWS + "/o\" = -43");
        Edges.terms(sentence, "land \"/\" = -20; land \"/o\" = -20; land \"o/\" = -22; land \"o//o\" = -22; land \"" + TWELVE_ROWS + "/\" = -43");
        Edges.terms(sentence, "land \"oooooooooooo/m\" = 13; told 12 0 = 3; told 11 0 = 0; told 13 0 = 0");
        Edges.terms(sentence, "land \"" + "o/".repeat(11) + "oooooooooooe\" = 23; told 143 0 = 7; told 142 0 = 0; count 8 = 1");
        for (char c = 33; c < 127; c++) {
            boolean can = "opwmahse".indexOf(c) >= 0;
            Edges.terms(sentence, "land \"" + c + "\" = " + (can ? 1 : -20));
            Edges.terms(sentence, "land \"o" + c + "\" = " + (can ? 2 : c >= '1' && c <= '9' ? c - '0' : c == '/' ? -22 : -21));
        }
    }

    private static void digits() {
        String sentence = "each perhaps with a digit 1 .. 9 (so many CELLS; 1 without)";
        Edges.terms(sentence, "land \"e1\" = 1; count 8 = 1; land \"e9\" = 9; count 8 = 9; land \"s\" = 1; count 8 = 8; count 7 = 1");
        Edges.terms(sentence, "land \"e0\" = -21; land \"1\" = -20; land \"e11\" = -22; land \"o/1\" = -22; land \"o1/2\" = -23; land \"e:\" = -21; count 8 = 0");
        Edges.terms(sentence, "land \"e2s3e\" = 6; count 8 = 3; count 7 = 3; told 1 0 = 7; told 2 0 = 6; told 4 0 = 6; told 5 0 = 7; told 6 0 = 0");
    }

    private static void othersStay() {
        String sentence = "CELLS of that ROW from its first on become so (DRAW 0); others stay.";
        Edges.terms(sentence, "draw 0 9; draw 1 8; draw 12 7; kind 1 5; kind 12 6; kind 143 7; land \"p\" = 1; told 0 0 = 1; told 0 1 = 0; told 1 0 = 5",
            "told 1 1 = 8; told 12 0 = 6; told 12 1 = 7; told 143 0 = 7");
        Edges.terms(sentence, "kind 0 5; draw 0 9; land \"o\" = 1; told 0 0 = 0; told 0 1 = 0");
        Edges.terms(sentence, "draw 11 3; draw 12 4; draw 13 5; land \"w9w3/w\" = 13; told 11 1 = 0; told 12 1 = 0; told 13 1 = 5; told 13 0 = 0");
    }

    private static void laws() {
        String sentence = "A LAW is a TEXT: 1 to 6 of a l r b t d (SETTINGS 0 .. 5), each once, each with a digit: these become so.";
        Edges.terms(sentence, "rules = -20; rules \"a0\" = 1; set 0 1 = 0; rules \"d9\" = 1; set 5 0 = 9; rules \"a9l8r7b6t5d4\" = 6; set 0 0 = 9; set 1 0 = 8",
            "set 2 0 = 7; set 3 0 = 6; set 4 0 = 5; set 5 0 = 4; set 6 0 = 1; set 7 0 = 4; set 8 1 = 0; set 9 0 = 240");
        Edges.terms(sentence, "rules \"d0t1b2r3l4a5\" = 6; set 0 0 = 5; set 1 0 = 4; set 2 0 = 3; set 3 0 = 2; set 4 0 = 1; set 5 1 = 0");
        Edges.terms(sentence, "rules \"a9l8r7b6t5d4a3\" = -32; rules \"a1a1\" = -22; rules \"a1l1d1a1\" = -26; set 0 0 = 8; set 1 0 = 3; set 5 0 = 4");
        Edges.terms(sentence, "rules \"a\" = -21; rules \"a1l\" = -23; rules \"al\" = -21; rules \"a11\" = -22; rules \"1\" = -20; set 0 0 = 8; set 1 0 = 3");
        for (char c = 33; c < 127; c++) {
            boolean can = "alrbtd".indexOf(c) >= 0;
            Edges.terms(sentence, "rules \"" + c + "\" = " + (can ? -21 : -20));
            Edges.terms(sentence, "rules \"a" + c + "\" = " + (c >= '0' && c <= '9' ? 1 : -21));
        }
    }

    private static void theFirstByte() {
        String sentence = "FAULTS: -20 less the place of the first byte";
        Edges.terms(sentence, "land \"xy\" = -20; land \"oxy\" = -21; land \"oooxoooy\" = -23; land \"ooooooooox0\" = -29; rules \"xy\" = -20; rules \"a1xy\" = -22");
        Edges.terms(sentence, "19x type 0x2020202020202020 8; type 0x20202020202020 7 = 159; land \"x\" = -179");
        Edges.terms(sentence, "19x type 0x2020202020202020 8; type 0x20202020202020 7 = 159; rules \"x\" = -179");
        Edges.terms(sentence, "land \"o/x\" = -22; land \"o9/o9/x\" = -26; land \"o9/o9/o9o9\" = -29");
    }

    private static void blanks() {
        String sentence = "(blanks, bytes 32, do not count)";
        Edges.terms(sentence, "land \" e\" = 1; land \"e \" = 1; land \" e 9 s 3 / w \" = 13; told 8 0 = 7; told 9 0 = 6; told 12 0 = 2; rules \" a 7 \" = 1; set 0 0 = 7");
        // They can stand anywhere, but the place of a byte is its place on THE TAPE.
        Edges.terms(sentence, "land \" x\" = -21; land \"  o  x\" = -25; land \" / \" = -21; land \"o 0\" = -22; land \"o1 1\" = -23; land \"o/ /\" = -23");
        Edges.terms(sentence, "rules \" x\" = -21; rules \" a x\" = -23; rules \"a1 1\" = -23; rules \"a1 a\" = -23; rules \" 1\" = -21");
    }

    private static void theEnd() {
        String sentence = "that can't stand there (the end: how many bytes there are)";
        Edges.terms(sentence, "land = -20; land \" \" = -21; land \"   \" = -23; land \"o/\" = -22; land \"o/  \" = -24; land \" o / \" = -25");
        Edges.terms(sentence, "rules = -20; rules \" \" = -21; rules \"   \" = -23; rules \"a\" = -21; rules \"a  \" = -23; rules \" a 1 l \" = -27");
        Edges.terms(sentence, "20x type 0x2020202020202020 8; land = -180; 20x type 0x2020202020202020 8; rules = -180");
    }

    private static void moreThanTwelve() {
        String sentence = "the letter or digit by which a ROW would have more than 12 CELLS can't.";
        Edges.terms(sentence, "land \"oooooooooooo\" = 12; land \"ooooooooooooo\" = -32; land \"o9o3\" = 12; land \"o9o4\" = -23; land \"o9o3o\" = -24");
        Edges.terms(sentence, "land \"o9oo2\" = 12; land \"o9oo3\" = -24; land \"o9o2o1\" = 12; land \"o9o2o2\" = -25; land \"o9o2oo\" = -25; land \"o9o9\" = -23");
        Edges.terms(sentence, "land \"e/o9o4\" = -25; land \"o9o3/o9o3\" = 24; land \"o9o3/o9o3o\" = -29; count 8 = 0; land \"o9o3 o\" = -25; land \"o9o 4\" = -24");
    }

    private static void aNewObject() {
        String sentence = "Open land, nobody goes.";
        for (int what = 0; what < 3; what++) {
            Edges edges = Edges.edge(1, sentence);
            for (int cell = 0; cell < 144; cell++) edges.run("told " + cell + " " + what + " = 0; parts " + cell + " 5 = 0");
        }
        Edges.edge(1, sentence, "count 0 = NONE; count 1 = 0; count 2 = 0; count 3 = 0; count 4 = 0; count 5 = 0; count 6 = 0; count 7 = 0; count 8 = 0",
            "where 0 = NONE; where 1 = NONE; night 1 = NOT; restore = NONE; drop 0 = NULL; drop 3 = NULL; land = -20; clear = 0; held = 0");
    }

    private static void kind() {
        Edges.edge(2, "KIND of a CELL: what it was. BAD.", "kind -1 0 = BAD; kind 144 0 = BAD; kind MIN 0 = BAD; kind MAX 0 = BAD; kind 0 -1 = BAD",
            "kind 0 8 = BAD; kind 0 MIN = BAD; kind 0 MAX = BAD; status 0 = 8; kind 0 7 = 0; kind 0 0 = 7; kind 143 7 = 0; kind 143 8 = BAD; kind 143 1 = 7",
            "told 143 0 = 1; told 142 0 = 0");
        // PARTS, DRAW and SEARCHED stay.
        Edges.edge(2, "KIND of a CELL: what it was. BAD.", "start 9 0; draw 9 4; search 0 9; kind 9 3 = 0; parts 9 5 = 687194767360; told 9 1 = 4; told 9 2 = 1");
        Edges.edge(2, "KIND of a CELL: what it was. BAD.", "rules \"a0l0r0b0\"; sits 0 0; start 9 0; night 1; kind 9 3; parts 9 4 = ALL; kind 9 4; parts 9 4 = ALL; night 1; parts 9 4 = ALL");
    }

    private static void draw() {
        Edges.edge(3, "DRAW of a CELL: what it was. BAD.", "draw -1 0 = BAD; draw 144 0 = BAD; draw MIN 0 = BAD; draw MAX 0 = BAD; draw 0 -1 = BAD",
            "draw 0 10 = BAD; draw 0 MIN = BAD; draw 0 MAX = BAD; status 0 = 8; draw 0 9 = 0; draw 0 0 = 9; draw 143 1 = 0; draw 143 10 = BAD; draw 143 9 = 1",
            "told 143 1 = 9; told 142 1 = 0; told 143 0 = 0");
    }

    private static void told() {
        String sentence = "Of a CELL: KIND (0), DRAW (1), how often it was SEARCHED (2). BAD.";
        Edges.edge(4, sentence, "told -1 0 = BAD; told 144 0 = BAD; told MIN 0 = BAD; told MAX 0 = BAD; told 0 -1 = BAD; told 0 3 = BAD; told 0 MIN = BAD",
            "told 0 MAX = BAD; status 0 = 8");
        Edges.edge(4, sentence, "kind 143 7; draw 143 9; start 143 0; 3x search 0 143; told 143 0 = 7; told 143 1 = 9; told 143 2 = 3; told 142 2 = 0");
        // As often as an object may be asked to.
        Edges.edge(4, sentence, "start 0 0; 500x search 0 143; told 143 2 = 500; count 6 = 1");
    }

    private static void set() {
        Edges.edge(5, "A SETTING: what it was. BAD.", "set -1 0 = BAD; set 10 0 = BAD; set MIN 0 = BAD; set MAX 0 = BAD; set 0 10 = BAD; set 5 10 = BAD",
            "set 6 4 = BAD; set 7 10 = BAD; set 8 1000 = BAD; set 9 1000 = BAD; set 0 -1 = BAD; set 6 -1 = BAD; set 9 -1 = BAD; set 9 MIN = BAD; set 9 MAX = BAD",
            "status 0 = 15; set 0 9 = 8; set 5 9 = 4; set 6 3 = 1; set 7 9 = 4; set 8 999 = 0; set 9 999 = 240; set 9 0 = 999; set 9 0 = 0; set 0 0 = 9");
    }

    private static void sits() {
        Edges.edge(6, "SITS of a KIND: what it was. BAD.", "sits -1 0 = BAD; sits 8 0 = BAD; sits MIN 0 = BAD; sits MAX 0 = BAD; sits 0 -1 = BAD; sits 0 10 = BAD",
            "sits 0 MIN = BAD; sits 0 MAX = BAD; status 0 = 8; sits 0 9 = 1; sits 0 0 = 9; sits 7 9 = 2; sits 7 10 = BAD; sits 7 0 = 9; sits 5 0 = 9");
    }

    private static void type() {
        String sentence = "The n lowest bytes (1 .. 8) of w, of these the highest first, come behind THE TAPE: how many it has. BAD: n, a byte not 32 .. 126; FULL: 160.";
        Edges.edge(7, sentence, "type 0x6f 0 = BAD; type 0x6f6f6f6f6f6f6f6f 9 = BAD; type 0x6f -1 = BAD; type 0x6f6f6f6f6f6f6f6f MIN = BAD; type 0x6f6f6f6f6f6f6f6f MAX = BAD; land = -20");
        Edges.edge(7, sentence, "type 0x6f 1 = 1; land = 1; type 0x6f70776d61687365 8 = 8; land = 8; told 0 0 = 0; told 1 0 = 1; told 7 0 = 7");
        // Of nine bytes' worth only the lowest count: what stands above them may be anything.
        Edges.edge(7, sentence, "type 0x1f6f 1 = 1; type -145 1 = 2; land = 2");
        // 31, 127, 128, 255, 0 can't come, wherever they stand; 32 and 126 can.
        Edges.edge(7, sentence, "type 0x1f 1 = BAD; type 0x7f 1 = BAD; type 0x80 1 = BAD; type 0xff 1 = BAD; type 0 1 = BAD; type -1 8 = BAD; type 0x6f 2 = BAD",
            "type 0x1f6f6f6f6f6f6f6f 8 = BAD; type 0x7f6f6f6f6f6f6f6f 8 = BAD; type 0x6f6f6f1f6f6f6f6f 8 = BAD; type 0x6f6f6f6f6f6f6f7f 8 = BAD; status 0 = 11",
            "type 0x20 1 = 1; type 0x7e 1 = 2; land = -21");
        Edges.edge(7, sentence, "19x type 0x2020202020202020 8; type 0x20202020202020 7 = 159; type 0x6f6f 2 = FULL; type 0x6f6f6f6f6f6f6f6f 8 = FULL; type 0x6f 1 = 160",
            "type 0x6f 1 = FULL; type 0x1f 1 = BAD; status 2 = 3; land = 1; type 0x6f 1 = 1");
        Edges.edge(7, sentence, "19x type 0x2020202020202020 8; type 0x2020202020202020 8 = 160; type 0x20 1 = FULL; rules = -180; type 0x20 1 = 1");
    }

    private static void land() {
        String sentence = "THE TAPE, which is empty then (by a FAULT, too), is a LAND: how many CELLS. A FAULT (THE LAND stays).";
        Edges.edge(8, sentence, "land = -20; land \"o\" = 1; land = -20; land \"x\" = -20; land = -20; type 0x6f 1 = 1; status 8 = 4");
        Edges.edge(8, sentence, "land \"" + "e9e3/".repeat(11) + "e9e3\" = 144; count 8 = 144; told 143 0 = 7");
        // What stands ahead of the FAULT is not laid, either.
        Edges.edge(8, sentence, "draw 0 5; land \"e9/s9/ex\" = -27; told 0 1 = 5; draw 0 0; " + NOTHING);
        Edges.edge(8, sentence, "land \"e9/\" = -23; " + NOTHING + "; land \"e9e4\" = -23; " + NOTHING);
    }

    private static void rules() {
        String sentence = "THE TAPE, which is empty then (by a FAULT, too), is a LAW: how many SETTINGS. A FAULT (SETTINGS stay).";
        Edges.edge(9, sentence, "rules = -20; rules \"a1\" = 1; rules = -20; rules \"x\" = -20; rules = -20; type 0x61 1 = 1; status 8 = 4");
        Edges.edge(9, sentence, "rules \"a1l1r1b1t1d\" = -31; set 0 0 = 8; set 1 0 = 3; set 2 0 = 2; set 3 0 = 1; set 4 0 = 2; set 5 0 = 4");
        Edges.edge(9, sentence, "rules \"a1l2x\" = -24; rules \"a0a0\" = -22; set 0 0 = 8; set 1 0 = 3; rules \"a1\" = 1; set 1 0 = 0; set 0 0 = 1");
    }
}
