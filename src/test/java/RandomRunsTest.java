import java.util.Random;

/** Runs of 512 calls, the same in each session, against the Reference. */
final class RandomRunsTest {
    private static final int RUNS = 400;
    private static final int CALLS = 512;
    private static final int[] WILD = {-1, -2, 2, 5, 6, 7, 8, 9, 10, 15, 16, 17, 24, 25, 60, 61, 99, 100, 143, 144, 145,
        999, 1000, Integer.MAX_VALUE, Integer.MIN_VALUE};
    private static final String[] NAMES = {"kind", "draw", "told", "set", "sits", "type", "land", "rules", "start", "night",
        "parts", "odds", "where", "count", "sees", "search", "alive", "team", "place", "whom", "bound", "again", "call",
        "truly", "job", "order", "found", "share", "span", "held", "measure", "leaves", "least", "net", "clear", "image",
        "restore", "status", "finds", "film", "sheet", "drop", "item", "copy"};

    private final Random random;
    private final SheGoesOut x = new SheGoesOut();
    private final Reference y = new Reference();
    private final int run;
    private final int[] a = new int[5];
    private long word;
    /** The CELLS of a run are near each other, so that they meet. */
    private final int corner;
    private final int wildness;

    private RandomRunsTest(int run) {
        this.run = run;
        random = new Random(run);
        corner = random.nextInt(144);
        wildness = run % 3 == 0 ? 3 : 15;
    }

    public static void main(String[] args) {
        for (int run = 0; run < RUNS && Check.wrongs() == 0; run++) new RandomRunsTest(run).go();
        Check.close();
    }

    private void go() {
        if (run % 4 != 0) prepare();
        while (used < CALLS - 8) {
            int which = pick();
            compare(which);
        }
        for (int reason = 0; reason < 8; reason++) {
            a[0] = reason;
            due(37, x.status(reason), y.status(reason));
        }
    }

    private int used = 0;

    private void prepare() {
        word = 0;
        text(landText(random.nextInt(12) + 1, 12));
        due(6, x.land(), y.land());
        for (int i = 0; i < 10 + random.nextInt(20); i++) {
            a[0] = near();
            a[1] = random.nextInt(8);
            due(0, x.kind(a[0], a[1]), y.kind(a[0], a[1]));
        }
        for (int side = 0; side < 3; side++) {
            a[0] = near();
            a[1] = side;
            due(8, x.start(a[0], a[1]), y.start(a[0], a[1]));
        }
        a[0] = 1 + random.nextInt(9);
        due(9, x.night(a[0]), y.night(a[0]));
    }

    private int pick() {
        int r = random.nextInt(100);
        if (r < 6) return 5;
        if (r < 9) return 6 + random.nextInt(2);
        if (r < 14) return 9;
        if (r < 20) return 15;
        if (r < 21) return 8;
        int which = random.nextInt(44);
        // These take most away; they come more seldom.
        if ((which == 34 || which == 35 || which == 36 || which == 8) && random.nextInt(3) > 0) return 10;
        return which;
    }

    private int near() {
        int row = Math.floorMod(corner / 12 + random.nextInt(5) - 2, 12);
        int column = Math.floorMod(corner % 12 + random.nextInt(5) - 2, 12);
        return random.nextInt(12) == 0 ? random.nextInt(144) : 12 * row + column;
    }

    private int upTo(int most) {
        return among(0, most);
    }

    private int among(int least, int most) {
        if (random.nextInt(wildness * 3) == 0) return WILD[random.nextInt(WILD.length)];
        if (random.nextInt(40) == 0) return random.nextBoolean() ? least - 1 : most + 1;
        return least + random.nextInt(most - least + 1);
    }

    private int cell() {
        return random.nextInt(wildness * 3) == 0 ? WILD[random.nextInt(WILD.length)] : near();
    }

    private String landText(int rows, int most) {
        StringBuilder b = new StringBuilder();
        for (int r = 0; r < rows; r++) {
            if (r > 0) b.append('/');
            int width = 1 + random.nextInt(most);
            while (width > 0) {
                b.append("opwmahse".charAt(random.nextInt(10) < 6 ? 0 : random.nextInt(8)));
                int n = Math.min(width, 1 + random.nextInt(9));
                if (n > 1 || random.nextInt(3) == 0) b.append((char) ('0' + n));
                width -= n;
            }
        }
        return b.toString();
    }

    private String lawText() {
        StringBuilder b = new StringBuilder();
        int first = random.nextInt(6);
        int step = random.nextBoolean() ? 1 : 5;
        int n = 1 + random.nextInt(6);
        for (int i = 0; i < n; i++) {
            b.append("alrbtd".charAt((first + i * step) % 6)).append((char) ('0' + random.nextInt(10)));
        }
        return b.toString();
    }

    private String faulty(String text) {
        StringBuilder b = new StringBuilder(text);
        for (int n = random.nextInt(3); n > 0; n--) {
            int at = random.nextInt(b.length() + 1);
            int r = random.nextInt(4);
            if (r == 0 && at < b.length()) b.deleteCharAt(at);
            else if (r == 1) b.insert(at, "opwmahse/0123456789alrbtd x".charAt(random.nextInt(27)));
            else if (r == 2 && at < b.length()) b.setCharAt(at, (char) (32 + random.nextInt(95)));
            else b.insert(at, ' ');
        }
        return b.toString();
    }

    private void text(String text) {
        for (int from = 0; from < text.length(); from += 8) {
            String piece = text.substring(from, Math.min(text.length(), from + 8));
            word = random.nextLong();
            for (int i = 0; i < piece.length(); i++) word = word << 8 | piece.charAt(i);
            a[0] = piece.length();
            due(5, x.type(word, a[0]), y.type(word, a[0]));
        }
    }

    private void due(int which, long got, long want) {
        used++;
        if (got == want) {
            Check.due("", got, want);
            return;
        }
        StringBuilder b = new StringBuilder();
        b.append("run ").append(run).append(" call ").append(used).append(": ").append(NAMES[which]).append(" by ");
        for (int arg : a) b.append(arg).append(' ');
        b.append("or ").append(word);
        Check.due(b.toString(), got, want);
    }

    private void compare(int which) {
        if (which < 8) land(which);
        else if (which < 17) night(which);
        else if (which < 26) teams(which);
        else if (which < 38) books(which);
        else sheets(which);
    }

    private void args(int... values) {
        System.arraycopy(values, 0, a, 0, values.length);
    }

    private void land(int which) {
        switch (which) {
            case 0: args(cell(), upTo(7)); due(0, x.kind(a[0], a[1]), y.kind(a[0], a[1])); break;
            case 1: args(cell(), upTo(9)); due(1, x.draw(a[0], a[1]), y.draw(a[0], a[1])); break;
            case 2: args(cell(), upTo(2)); due(2, x.told(a[0], a[1]), y.told(a[0], a[1])); break;
            case 3: setting(); break;
            case 4: args(upTo(7), upTo(random.nextInt(3) == 0 ? 9 : 1)); due(4, x.sits(a[0], a[1]), y.sits(a[0], a[1])); break;
            case 5: typing(); break;
            case 6: due(6, x.land(), y.land()); break;
            default: due(7, x.rules(), y.rules());
        }
    }

    private void setting() {
        args(upTo(9), upTo(9));
        if (a[0] >= 8 && random.nextInt(4) > 0) a[1] = random.nextInt(3) == 0 ? upTo(999) : near() * 2;
        due(3, x.set(a[0], a[1]), y.set(a[0], a[1]));
    }

    private void typing() {
        int r = random.nextInt(6);
        if (r == 0) {
            args(upTo(9));
            word = random.nextInt(3) == 0 ? random.nextLong() : 0x6f6f2f6f6f6f2f6fL;
            due(5, x.type(word, a[0]), y.type(word, a[0]));
        } else if (r < 4) {
            // Whole texts, most of them read at once, and some left to join the next.
            text(faulty(landText(1 + random.nextInt(3), 13)));
            if (random.nextInt(8) > 0) due(6, x.land(), y.land());
        } else {
            text(faulty(lawText()));
            if (random.nextInt(8) > 0) due(7, x.rules(), y.rules());
        }
    }

    private void night(int which) {
        switch (which) {
            case 8: args(cell(), upTo(3)); due(8, x.start(a[0], a[1]), y.start(a[0], a[1])); break;
            case 9: args(among(1, random.nextInt(9) == 0 ? 60 : 8)); due(9, x.night(a[0]), y.night(a[0])); break;
            case 10: args(cell(), upTo(5)); due(10, x.parts(a[0], a[1]), y.parts(a[0], a[1])); break;
            case 11: args(cell(), upTo(1)); due(11, x.odds(a[0], a[1]), y.odds(a[0], a[1])); break;
            case 12: args(upTo(1)); due(12, x.where(a[0]), y.where(a[0])); break;
            case 13: args(upTo(8)); due(13, x.count(a[0]), y.count(a[0])); break;
            case 14: args(upTo(3), cell(), upTo(1)); due(14, x.sees(a[0], a[1], a[2]), y.sees(a[0], a[1], a[2])); break;
            case 15: args(upTo(3), cell()); due(15, x.search(a[0], a[1]), y.search(a[0], a[1])); break;
            default: args(upTo(999)); due(16, x.alive(a[0]), y.alive(a[0]));
        }
    }

    private void teams(int which) {
        switch (which) {
            case 17: args(upTo(3), cell(), among(1, 9)); due(17, x.team(a[0], a[1], a[2]), y.team(a[0], a[1], a[2])); break;
            case 18: args(cell()); due(18, x.place(a[0]), y.place(a[0])); break;
            case 19: args(among(-1, 3)); due(19, x.whom(a[0]), y.whom(a[0])); break;
            case 20: due(20, x.bound(), y.bound()); break;
            case 21: args(upTo(3), upTo(1)); due(21, x.again(a[0], a[1]), y.again(a[0], a[1])); break;
            case 22: args(cell(), upTo(9), upTo(random.nextInt(4) == 0 ? 15 : 5)); due(22, x.call(a[0], a[1], a[2]), y.call(a[0], a[1], a[2])); break;
            case 23: args(cell(), upTo(9), upTo(15), upTo(1)); due(23, x.truly(a[0], a[1], a[2], a[3]), y.truly(a[0], a[1], a[2], a[3])); break;
            case 24: args(cell(), upTo(3), among(1, 60)); due(24, x.job(a[0], a[1], a[2]), y.job(a[0], a[1], a[2])); break;
            default: args(among(-1, 5)); due(25, x.order(a[0]), y.order(a[0]));
        }
    }

    private void books(int which) {
        switch (which) {
            case 26: args(upTo(3), upTo(random.nextBoolean() ? 9 : 99), upTo(7)); due(26, x.found(a[0], a[1], a[2]), y.found(a[0], a[1], a[2])); break;
            case 27: args(upTo(7), upTo(1)); due(27, x.share(a[0], a[1]), y.share(a[0], a[1])); break;
            case 28: args(upTo(3), among(1, 4)); due(28, x.span(a[0], a[1]), y.span(a[0], a[1])); break;
            case 29: due(29, x.held(), y.held()); break;
            case 30: args(upTo(15), upTo(random.nextBoolean() ? 3 : 15)); due(30, x.measure(a[0], a[1]), y.measure(a[0], a[1])); break;
            case 31: args(upTo((1 << random.nextInt(9)) - 1), upTo(1)); due(31, x.leaves(a[0], a[1]), y.leaves(a[0], a[1])); break;
            case 32: args(upTo(16), upTo(1)); due(32, x.least(a[0], a[1]), y.least(a[0], a[1])); break;
            case 33: args(among(1, 4), 0); a[1] = among(-1, Math.max(1, Math.min(a[0], 4)) - 1); due(33, x.net(a[0], a[1]), y.net(a[0], a[1])); break;
            case 34: due(34, x.clear(), y.clear()); break;
            case 35: due(35, x.image(), y.image()); break;
            case 36: due(36, x.restore(), y.restore()); break;
            default: args(upTo(8)); due(37, x.status(a[0]), y.status(a[0]));
        }
    }

    /** Mostly one LANE for all, so that rows meet. */
    private int lane() {
        return random.nextInt(4) > 0 ? run % 4 : upTo(3);
    }

    private void sheets(int which) {
        switch (which) {
            case 38: args(upTo(3), lane(), upTo(8), among(1, random.nextBoolean() ? 2 : 8)); due(38, x.finds(a[0], a[1], a[2], a[3]), y.finds(a[0], a[1], a[2], a[3])); break;
            case 39: args(upTo(11), upTo(3), lane(), upTo(random.nextBoolean() ? 3 : 13)); due(39, x.film(a[0], a[1], a[2], a[3]), y.film(a[0], a[1], a[2], a[3])); break;
            case 40: args(upTo(3), lane(), random.nextBoolean() ? upTo(24) : 24); due(40, x.sheet(a[0], a[1], a[2]), y.sheet(a[0], a[1], a[2])); break;
            case 41: args(upTo(3)); due(41, x.drop(a[0]), y.drop(a[0])); break;
            case 42: items(); break;
            default: args(upTo(3), upTo(24), upTo(3), upTo(24), upTo(random.nextBoolean() ? 6 : 24)); due(43, x.copy(a[0], a[1], a[2], a[3], a[4]), y.copy(a[0], a[1], a[2], a[3], a[4]));
        }
    }

    private void items() {
        args(upTo(3), lane(), upTo(24));
        word = random.nextInt(4) == 0 ? random.nextLong() : upTo(random.nextBoolean() ? 3 : 99);
        if (random.nextInt(4) == 0) word += 1L << 8 * (1 + random.nextInt(4));
        due(42, x.item(a[0], a[1], a[2], word), y.item(a[0], a[1], a[2], word));
    }
}
