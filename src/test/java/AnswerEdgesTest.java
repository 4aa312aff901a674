/** The Terms on answers below 0, on STATUS and on numbers: what each sentence asks at the edges that it names. */
final class AnswerEdgesTest {
    public static void main(String[] args) {
        badAheadOfAll();
        thenTheFirst();
        whatTheMachineFinds();
        anotherLane();
        whereNoItemIsTaken();
        counted();
        countedAtMost();
        numbers();
        Edges.eachIsTested(0, 0);
        Check.close();
    }

    private static void badAheadOfAll() {
        String sentence = "of several BAD ahead of all others";
        Edges.terms(sentence, "night 61 = BAD; sees 4 0 0 = BAD; search 0 144 = BAD; whom 4 = BAD; again 0 2 = BAD",
            "call 0 0 16 = BAD; truly 0 10 0 0 = BAD; order -2 = BAD; status 1 = 0");
        Edges.terms(sentence, "kind 9 3; start 9 4 = BAD; kind 9 4; start 9 -1 = BAD; status 1 = 0");
        Edges.terms(sentence, "odds 0 2 = BAD; where 2 = BAD; span 4 1 = BAD; least 17 0 = BAD; net 5 0 = BAD; status 3 = 0");
        Edges.terms(sentence, "start 0 0; 11x call 143 0 15; search 4 0 = BAD; call 144 0 0 = BAD; truly 0 0 0 2 = BAD",
            "odds -1 0 = BAD; where -1 = BAD; status 3 = 0");
        Edges.terms(sentence, "start 0 0; 16x night 60; night 39 = 999; night 0 = BAD; status 2 = 0");
        Edges.terms(sentence, "4x team 0 0 1; team 0 0 10 = BAD; 6x job 0 0 1; job 0 0 61 = BAD; 8x measure 0 0",
            "measure 16 0 = BAD; 60x found 0 0 0; found 0 100 0 = BAD; 20x type 0x2020202020202020 8; type 31 1 = BAD",
            "place 0; place 1; place 2; place 3; place 4; place 5; place 144 = BAD; status 2 = 0");
        Edges.terms(sentence, "finds 0 0 -1 9 = BAD; film 12 0 0 -1 = BAD; item 0 4 -1 0 = BAD; copy 0 0 4 0 -1 = BAD",
            "drop 4 = BAD; sheet 4 0 -1 = BAD; status 4 = 0; status 5 = 0; status 6 = 0; status 7 = 0");
    }

    private static void thenTheFirst() {
        String sentence = "then the first that a call names";
        Edges.terms(sentence, "search 0 0 = NOT; whom 0 = NOT; bound = NOT; again 0 0 = NOT; call 0 0 0 = NOT",
            "truly 0 0 0 0 = NOT; order 0 = NOT; status 3 = 0");
        Edges.terms(sentence, "place 0; place 1; place 2; place 3; place 4; place 5 = 5; place 0 = FULL; status 1 = 0");
        Edges.terms(sentence, "sheet 0 0 3; item 0 0 0 4; 60x found 0 0 0; finds 0 0 0 1 = NOT; status 2 = 0");
        Edges.terms(sentence, "film 0 0 0 0 = NULL; sheet 0 0 11; film 0 0 1 0 = CAST; film 0 0 0 0 = INDEX; status 3 = 0");
        Edges.terms(sentence, "finds 0 0 0 1 = NULL; sheet 0 0 3; item 0 0 0 -1; finds 0 1 0 1 = CAST",
            "finds 0 0 1 1 = INDEX; status 1 = 0");
    }

    private static void whatTheMachineFinds() {
        String sentence = "(NULL, CAST, INDEX, SIZE in this order";
        Edges.terms(sentence, "item 0 1 -1 0 = NULL; sheet 0 0 3; item 0 1 -1 0 = CAST; item 0 0 -1 0 = INDEX; item 0 0 0 0 = 1");
        Edges.terms(sentence, "finds 0 1 9 8 = NULL; sheet 0 0 3; finds 0 1 9 8 = CAST; finds 0 0 9 8 = INDEX");
        Edges.terms(sentence, "start 0 0; film 0 0 1 9 = NULL; sheet 0 0 3; film 0 0 1 9 = CAST; film 0 0 0 9 = INDEX");
        Edges.terms(sentence, "copy 0 -1 1 -1 -1 = NULL; sheet 0 0 3; copy 0 -1 1 -1 -1 = NULL; copy 1 -1 0 -1 -1 = NULL",
            "sheet 1 1 3; copy 0 -1 1 -1 -1 = CAST; sheet 1 0 3; copy 0 -1 1 -1 -1 = INDEX");
    }

    private static void anotherLane() {
        for (int is = 0; is < 4; is++) {
            for (int lane = 0; lane < 4; lane++) {
                String due = lane == is ? "1" : "CAST";
                Edges.terms("CAST -12 (of SHEETS another LANE)", "start 99 0; sheet 2 " + is + " 24; sheet 3 " + lane + " 24; item 2 " + lane + " 0 0 = " + due,
                    "finds 2 " + lane + " 0 1 = " + due + "; film 0 2 " + lane + " 0 = " + due.replace("1", "12"),
                    "copy 2 0 3 0 1 = " + due + "; copy 3 0 2 0 1 = " + due + "; copy 2 0 3 0 0 = " + due.replace("1", "0"));
            }
        }
    }

    private static void whereNoItemIsTaken() {
        String sentence = "INDEX also where no item is taken, if i, j is below 0, or above how many there are";
        Edges.terms(sentence, "sheet 0 0 5; sheet 1 0 3; copy 0 0 1 0 0 = 0; copy 0 5 1 0 0 = 0; copy 0 6 1 0 0 = INDEX",
            "copy 0 -1 1 0 0 = INDEX; copy 0 0 1 3 0 = 0; copy 0 0 1 4 0 = INDEX; copy 0 0 1 -1 0 = INDEX",
            "copy 0 MAX 1 0 0 = INDEX; copy 0 MIN 1 0 0 = INDEX; copy 0 0 1 MAX 0 = INDEX; copy 0 0 1 MIN 0 = INDEX");
        Edges.terms(sentence, "sheet 2 3 0; copy 2 0 2 0 0 = 0; copy 2 1 2 0 0 = INDEX; copy 2 0 2 1 0 = INDEX");
    }

    private static void counted() {
        Edges.terms("each answer below 0 is counted there by its reason (FAULTS as one reason",
            "land = -20; land \"x\" = -20; land \"ox\" = -21; land \" \" = -21; rules = -20; rules \"a\" = -21; rules \"ax\" = -21",
            "status 8 = 7; status 0 = 0; status 1 = 0; status 2 = 0; status 3 = 0; status 4 = 0; status 5 = 0; status 6 = 0",
            "status 7 = 0");
    }

    /** 512 calls can't come there, so this object is used for longer than the document speaks of. */
    private static void countedAtMost() {
        Edges.terms("1000000 at most");
        SheGoesOut x = new SheGoesOut();
        for (int i = 0; i < 999999; i++) x.status(9);
        Check.due("Terms: 999999", x.status(0), 999999);
        x.status(9);
        Check.due("Terms: 1000000", x.status(0), 1000000);
        x.status(9);
        Check.due("Terms: 1000000 at most", x.status(0), 1000000);
    }

    private static void numbers() {
        Edges.terms("Sets are bits.", "7x measure 0 0; measure 8 1 = 7; leaves 128 1 = 2; leaves 127 1 = 1; least 8 0 = 128");
        // 15 sixteenths of 1000 are 937 and a half.
        Edges.terms("Divisions are cut.", "start 0 0; call 143 0 1 = 937");
        String fractions = "Fractions are in lowest terms, told above (part 0) and below (part 1).";
        Edges.terms(fractions, "start 5 0; odds 4 0 = 0; odds 4 1 = 1; odds 5 0 = 1; odds 5 1 = 1");
        Edges.terms(fractions, "found 0 0 1; found 0 0 2; share 1 0 = 1; share 1 1 = 5; share 0 0 = 1; share 0 1 = 10");
        Edges.terms(fractions, "measure 8 0; measure 0 0; leaves 1 0 = 1; leaves 1 1 = 2; leaves 2 0 = 1; leaves 2 1 = 1");
        Edges.terms(fractions, "start 0 0; truly 0 9 0 0 = 0; truly 0 9 0 1 = 1; truly 66 9 8 0 = 1; truly 66 9 8 1 = 2");
    }
}
