import java.util.ArrayList;
import java.util.Arrays;
import java.util.List;
import java.util.Map;
import java.util.TreeMap;

/**
 * What answers below 0 changes nothing but STATUS, and is counted there by its reason: each call of the face, with each
 * number just too small and just too large and by each other reason, from empty, full and used states. After a refused
 * call all else must answer as it does without it.
 */
final class RefusalsTest {
    private static final String CHANGES = "What answers so changes nothing but STATUS, and as told: each answer below 0 is counted there by its reason";
    private static final int SECTIONS = 8;

    private static final String THINGS = "kind 5 6; kind 70 7; kind 71 7; draw 9 4; set 8 30; set 9 40; sits 0 2; team 1 0 2; team 2 30 3; place 0; place 14; "
        + "job 0 1 5; job 1 2 9; found 1 20 3; found 1 30 2; found 2 9 1; measure 8 3; measure 4 1; "
        + "sheet 0 0 24; item 0 0 1 44; item 0 0 3 3; item 0 0 8 8; sheet 1 3 12; item 1 3 1 55; image; "
        + "kind 6 3; kind 7 4; draw 8 2; set 0 7; place 99; found 0 77 5";
    private static final String OUT = THINGS + "; start 13 1; night 7; search 1 14; search 2 13; image; night 2; call 14 1 3; team 3 9 9";
    private static final String FULL = THINGS + "; 2x team 0 5 5; 3x place 1; place 2; place 3; 4x job 2 3 1; 6x measure 1 1; 6x finds 0 0 9 5; "
        + "26x found 3 0 0; start 13 1; 19x type 0x206f706120203120 8; type 0x2061312f6f2030 7; type 0x70 1";
    private static final Map<String, String> STATES = states();

    /** The numbers that a call takes; ? is any (0 here), =5 is this one alone. */
    private static final String[] TAKEN = {"kind 0..143 0..7", "draw 0..143 0..9", "told 0..143 0..2", "set 0..9 =0", "set =0 0..9", "set =5 0..9",
        "set =6 0..3", "set =7 0..9", "set =8 0..999", "set =9 0..999", "sits 0..7 0..9", "start 0..143 0..3", "night 1..60", "parts 0..143 0..5",
        "odds 0..143 0..1", "where 0..1", "count 0..8", "sees 0..3 0..143 0..1", "search 0..3 0..143", "alive 0..999", "team 0..3 0..143 1..9",
        "place 0..143", "whom -1..3", "again 0..3 0..1", "call 0..143 0..9 0..15", "truly 0..143 0..9 0..15 0..1", "job 0..143 0..3 1..60", "order -1..5",
        "found 0..3 0..99 0..7", "share 0..7 0..1", "span 0..3 1..4", "measure 0..15 0..15", "leaves =0 0..1", "least 0..16 0..1", "net 1..4 =-1",
        "net =1 -1..0", "net =4 -1..3", "status 0..8", "finds 0..3 0..3 ? 1..8", "film 0..11 0..3 0..3 ?", "sheet 0..3 0..3 ?", "drop 0..3",
        "item 0..3 0..3 ? ?", "copy 0..3 ? 0..3 ? ?"};

    private RefusalsTest() {
    }

    public static void main(String[] args) {
        Edges.terms(CHANGES);
        for (String state : STATES.keySet()) {
            bad(state);
            faults(state);
        }
        notYet();
        noneLeft();
        full();
        used();
        sheets();
        Check.close();
    }

    private static Map<String, String> states() {
        Map<String, String> states = new TreeMap<>();
        states.put("new", "told 0 0");
        states.put("bare", "start 5 0");
        states.put("home", THINGS + "; type \"o2/\"");
        states.put("out", OUT);
        states.put("none left", OUT + "; 11x call 143 0 15");
        states.put("full", FULL);
        states.put("last", OUT + "; 16x night 60; night 30");
        return states;
    }

    // ---- the refusals

    private static void bad(String state) {
        for (String taken : TAKEN) {
            String[] words = taken.split(" ");
            for (int i = 1; i < words.length; i++) {
                if (!words[i].contains("..")) continue;
                String[] ends = words[i].split("\\.\\.");
                int low = Integer.parseInt(ends[0]);
                int high = Integer.parseInt(ends[1]);
                for (int wrong : new int[] {low - 1, high + 1, Integer.MIN_VALUE, Integer.MAX_VALUE}) {
                    StringBuilder call = new StringBuilder(words[0]);
                    for (int k = 1; k < words.length; k++) call.append(' ').append(k == i ? "" + wrong : right(words[k]));
                    refused(state, "BAD", call.toString());
                }
            }
        }
        refused(state, "BAD", "sheet 0 0 25", "sheet 0 0 MAX", "leaves -1 0", "leaves 256 0", "leaves MIN 0", "leaves MAX 0", "type 0x6f 0", "type 0x6f6f6f6f6f6f6f6f 9",
            "type 0x6f6f6f6f6f6f6f6f MIN", "type 0x6f6f6f6f6f6f6f6f MAX", "type 0x1f 1", "type 0x7f 1", "type 0x1f6f 2", "type 0x6f1f 2", "type -1 8", "type 0xff6f6f6f6f6f6f 8");
    }

    private static String right(String word) {
        if (word.equals("?")) return "0";
        return word.startsWith("=") ? word.substring(1) : word.substring(0, word.indexOf(".."));
    }

    /** By a FAULT the tape is empty then, and nothing else has changed. */
    private static void faults(String state) {
        String emptied = STATES.get(state) + "; rules";
        for (String call : new String[] {"land", "rules"}) {
            for (String text : new String[] {"", " ", "x", "e9/e0", "p2/w3/", "a7l7r", "a9a9", "o9o4", "d0x"}) {
                String run = emptied + (text.isEmpty() ? "" : "; type \"" + text + "\"");
                long got = new Edges(state).run(run).answer(call);
                Check.holds("P39 " + state + ": " + call + " of '" + text + "' answered " + got, got <= -20 && got >= -20 - text.length());
                compare(state + ": " + call + " of '" + text + "'", emptied, run + "; " + call, 8);
            }
        }
    }

    private static void notYet() {
        for (String state : new String[] {"new", "home"}) {
            refused(state, "NOT", "night 1", "night 60", "sees 0 0 0", "sees 3 143 1", "search 0 0", "search 3 143", "whom -1", "whom 0", "whom 3", "bound",
                "again 0 0", "again 3 1", "call 0 0 0", "call 143 9 15", "truly 0 0 0 0", "truly 143 9 15 1", "order -1", "order 0", "order 5");
            refused(state, "NONE", "count 0", "odds 0 0", "odds 143 1", "where 0", "where 1");
        }
        refused("new", "NONE", "restore", "span 0 1", "span 3 4", "least 0 0", "least 15 1", "net 1 -1", "net 4 3");
    }

    private static void noneLeft() {
        refused("none left", "NONE", "odds 0 0", "odds 143 1", "where 0", "where 1", "search 0 0", "search 3 143", "call 0 0 0", "call 143 9 15",
            "truly 0 0 0 0", "truly 143 9 15 1", "film 0 0 0 0", "film 11 1 3 0");
    }

    private static void full() {
        refused("full", "FULL", "team 0 0 1", "team 3 143 9", "place 100", "place 0", "job 0 0 1", "job 143 3 60", "found 0 0 0", "found 3 99 7",
            "measure 0 0", "measure 15 15", "type 0x6f 1", "type 0x6f6f6f6f6f6f6f6f 8", "finds 0 0 9 1", "finds 0 0 9 5");
        refused("last", "FULL", "night 1", "night 60");
    }

    private static void used() {
        for (String state : new String[] {"home", "out", "none left", "full", "last"}) {
            refused(state, "NOT", "start 6 0", "start 7 3", "finds 0 0 6 1", "finds 0 0 0 8");
            refused(state, "NONE", "net 3 -1", "net 4 0", "least 0 0", "least 0 1");
        }
        for (String state : new String[] {"out", "none left", "last"}) {
            refused(state, "NOT", "place 0", "place 99");
            refused(state, "NONE", "whom 3", "order 2", "order 5", "span 3 1");
        }
        refused("bare", "NONE", "whom -1", "whom 0", "whom 3", "bound", "again 0 0", "again 3 1", "order -1", "order 0", "order 5", "restore", "where 1");
    }

    private static void sheets() {
        for (String state : STATES.keySet()) {
            refused(state, "NULL", "finds 2 0 0 1", "film 0 3 0 0", "drop 2", "drop 3", "item 2 0 0 0", "copy 2 0 3 0 0", "copy 3 0 3 0 1");
            refused(state, "SIZE", "sheet 0 0 -1", "sheet 3 3 -1", "sheet 1 2 MIN");
            if (state.equals("new") || state.equals("bare")) continue;
            refused(state, "NULL", "copy 0 0 2 0 1", "copy 2 0 0 0 1");
            refused(state, "CAST", "finds 0 1 0 1", "finds 1 0 -1 8", "film 0 0 3 0", "film 11 1 2 24", "item 0 3 0 0", "item 1 2 -1 0", "copy 0 0 1 0 1", "copy 1 -1 0 -1 -1");
            refused(state, "INDEX", "finds 0 0 22 1", "finds 0 0 -1 1", "finds 1 3 0 5", "film 0 0 0 13", "film 0 0 0 -1", "film 0 1 3 1", "item 0 0 24 1", "item 1 3 -1 1",
                "item 1 3 12 1", "copy 0 0 0 1 24", "copy 0 25 0 0 0", "copy 0 0 0 0 -1", "copy 1 MAX 1 0 1", "copy 1 0 1 MIN 1", "copy 1 0 1 13 0");
        }
    }

    private static void refused(String state, String reason, String... calls) {
        for (String call : calls) {
            String run = STATES.get(state);
            Check.due(state + ": " + call, new Edges(state).run(run).answer(call), Edges.number(reason));
            compare(state + ": " + call, run, run + "; " + call, List.of("BAD", "NOT", "FULL", "NONE", "NULL", "CAST", "INDEX", "SIZE").indexOf(reason));
        }
    }

    // ---- what all else answers

    private static final Map<String, List<long[]>> ANSWERS = new TreeMap<>();

    private static void compare(String what, String without, String with, int reason) {
        List<long[]> due = ANSWERS.computeIfAbsent(without, RefusalsTest::answers);
        List<long[]> got = answers(with);
        for (int section = 1; section < SECTIONS; section++) {
            Check.holds(what + " changed what section " + section + " tells", Arrays.equals(got.get(section), due.get(section)));
        }
        for (int r = 0; r < 9; r++) {
            Check.due(what + ": STATUS of " + r, got.get(0)[r], due.get(0)[r] + (r == reason ? 1 : 0));
        }
    }

    /** What can be told of a state, each section by an object of its own. */
    private static List<long[]> answers(String run) {
        List<long[]> all = new ArrayList<>();
        for (int section = 0; section < SECTIONS; section++) {
            Told told = new Told(new Edges("RefusalsTest").run(run).object());
            told.section(section);
            all.add(told.answers());
        }
        return all;
    }

    private static final class Told {
        private final SheGoesOut x;
        private final long[] answers = new long[400];
        private int size = 0;

        Told(SheGoesOut x) {
            this.x = x;
        }

        long[] answers() {
            return Arrays.copyOf(answers, size);
        }

        private void add(long answer) {
            answers[size++] = answer;
        }

        void section(int section) {
            switch (section) {
                case 0: status(); break;
                case 1: land(); break;
                case 2: parts(0); break;
                case 3: parts(2); break;
                case 4: night(); break;
                case 5: things(); break;
                case 6: tapeAndSheets(); break;
                default: x.restore(); night(); things(); break;
            }
        }

        private void status() {
            for (int reason = 0; reason < 9; reason++) add(x.status(reason));
        }

        private void land() {
            for (int cell = 0; cell < 144; cell++) add(1000 * x.told(cell, 2) + 10 * x.told(cell, 1) + x.told(cell, 0));
        }

        private void parts(int first) {
            for (int cell = 0; cell < 144; cell++) {
                add(x.parts(cell, first));
                add(x.parts(cell, first + 1));
            }
        }

        private void night() {
            for (int what = 0; what < 9; what++) add(x.count(what));
            for (int cell = 0; cell < 48; cell++) add(x.parts(cell, 4));
            for (int sort = 0; sort < 4; sort++) add(x.again(sort, 0));
            add(x.call(14, 1, 8));
            add(x.search(1, 14));
            add(x.night(1));
            for (int what = 0; what < 10; what++) add(x.set(what, 0));
            for (int kind = 0; kind < 8; kind++) add(x.sits(kind, 0));
        }

        private void things() {
            for (int i = -1; i < 4; i++) add(x.whom(i));
            for (int i = -1; i < 6; i++) add(x.order(i));
            add(x.bound());
            for (int age = 0; age < 4; age++) {
                for (int q = 1; q <= 4; q++) add(x.span(age, q));
            }
            for (int kind = 0; kind < 8; kind++) add(1000 * x.share(kind, 0) + x.share(kind, 1));
            for (int a = 0; a <= 16; a++) add(100 * x.least(a, 0) + x.least(a, 1));
            for (int set = 1; set < 256; set *= 2) add(1000 * x.leaves(set, 0) + x.leaves(set, 1));
            add(x.net(2, -1));
            add(x.held());
            add(x.clear());
        }

        private void tapeAndSheets() {
            add(x.type('o', 1));
            add(x.land());
            for (int cell = 0; cell < 30; cell++) add(x.told(cell, 0));
            x.clear();
            for (int sheet = 0; sheet < 4; sheet++) {
                for (int lane = 0; lane < 4; lane++) {
                    for (int i = 0; i < 12; i++) add(x.finds(sheet, lane, i, 1));
                }
                add(x.drop(sheet));
            }
            for (int age = 0; age < 4; age++) add(1000 * x.span(age, 1) + x.span(age, 4));
            add(x.restore());
        }
    }
}
