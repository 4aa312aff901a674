import java.lang.reflect.Array;
import java.math.BigInteger;
import java.util.ArrayList;
import java.util.Arrays;
import java.util.Collections;
import java.util.HashSet;
import java.util.List;
import java.util.Set;
import java.util.TreeMap;
import java.util.TreeSet;

/**
 * The document once more, by other ways than the program's: groups instead of rows, all rows looked at
 * instead of tried one by one, sorted lists, whole numbers without a bound, rows of the machine for SHEETS.
 * Slow; RandomRunsTest compares the program with it.
 */
final class Reference {
    private static final int BAD = -1, NOT = -2, FULL = -3, NONE = -4, NULL = -11, CAST = -12, INDEX = -13, SIZE = -14;
    private static final String KINDS = "opwmahse";
    private static final int SITTING = 4;

    /** What an IMAGE keeps. */
    private static final class World {
        int[] kinds = new int[144];
        int[] draws = new int[144];
        int[] searched = new int[144];
        int[] settings = {8, 3, 2, 1, 2, 4, 1, 4, 0, 240};
        int[] sits = {1, 0, 3, 0, 0, 9, 2, 2};
        boolean out = false;
        int minute = 0;
        /** By CELL times 5 and SIDE (4: SITTING); no groups of nobody. */
        TreeMap<Integer, Long> groups = new TreeMap<>();
        List<int[]> teams = new ArrayList<>();
        List<Integer> places = new ArrayList<>();
        List<int[]> jobs = new ArrayList<>();
        List<int[]> book = new ArrayList<>();
        List<int[]> measures = new ArrayList<>();

        World copied() {
            World w = new World();
            w.kinds = kinds.clone();
            w.draws = draws.clone();
            w.searched = searched.clone();
            w.settings = settings.clone();
            w.sits = sits.clone();
            w.out = out;
            w.minute = minute;
            w.groups = new TreeMap<>(groups);
            w.teams = new ArrayList<>(teams);
            w.places = new ArrayList<>(places);
            w.jobs = new ArrayList<>(jobs);
            w.book = new ArrayList<>(book);
            w.measures = new ArrayList<>(measures);
            return w;
        }
    }

    private World w = new World();
    private World kept = null;
    private String tape = "";
    private final Object[] sheets = new Object[4];
    private final int[] counts = new int[9];

    private int no(int answer) {
        int[] reasons = {BAD, NOT, FULL, NONE, NULL, CAST, INDEX, SIZE};
        int reason = 8;
        for (int r = 0; r < 8; r++) {
            if (reasons[r] == answer) reason = r;
        }
        counts[reason]++;
        return answer;
    }

    private static boolean cell(int c) {
        return c >= 0 && c <= 143;
    }

    private static boolean upTo(int v, int most) {
        return v >= 0 && v <= most;
    }

    // ---- the land

    int kind(int c, int v) {
        if (!cell(c) || !upTo(v, 7)) return no(BAD);
        int was = w.kinds[c];
        w.kinds[c] = v;
        return was;
    }

    int draw(int c, int v) {
        if (!cell(c) || !upTo(v, 9)) return no(BAD);
        int was = w.draws[c];
        w.draws[c] = v;
        return was;
    }

    int told(int c, int what) {
        if (!cell(c) || !upTo(what, 2)) return no(BAD);
        return what == 0 ? w.kinds[c] : what == 1 ? w.draws[c] : w.searched[c];
    }

    int set(int what, int v) {
        if (!upTo(what, 9) || !upTo(v, what >= 8 ? 999 : what == 6 ? 3 : 9)) return no(BAD);
        int was = w.settings[what];
        w.settings[what] = v;
        return was;
    }

    int sits(int kind, int v) {
        if (!upTo(kind, 7) || !upTo(v, 9)) return no(BAD);
        int was = w.sits[kind];
        w.sits[kind] = v;
        return was;
    }

    int type(long word, int n) {
        if (n < 1 || n > 8) return no(BAD);
        StringBuilder more = new StringBuilder();
        byte[] bytes = BigInteger.valueOf(word).and(BigInteger.ONE.shiftLeft(8 * n).subtract(BigInteger.ONE)).toByteArray();
        for (int i = 0; i < n; i++) {
            int from = bytes.length - n + i;
            int b = from < 0 ? 0 : bytes[from] & 255;
            if (b < 32 || b > 126) return no(BAD);
            more.append((char) b);
        }
        if (tape.length() + n > 160) return no(FULL);
        tape += more;
        return tape.length();
    }

    private static int width(String row) {
        int width = 0;
        for (int i = 0; i < row.length(); i++) {
            if (!Character.isDigit(row.charAt(i))) width++;
            else width += row.charAt(i) - '1';
        }
        return width;
    }

    private static boolean beginsALand(String text) {
        String[] rows = text.split("/", -1);
        if (rows.length > 12) return false;
        for (int r = 0; r < rows.length; r++) {
            if (!rows[r].matches("([opwmahse][1-9]?)*") || width(rows[r]) > 12) return false;
            if (rows[r].isEmpty() && r < rows.length - 1) return false;
        }
        return true;
    }

    private static boolean beginsALaw(String text) {
        if (!text.matches("([alrbtd][0-9])*[alrbtd]?")) return false;
        Set<Character> letters = new HashSet<>();
        for (int i = 0; i < text.length(); i += 2) {
            if (!letters.add(text.charAt(i))) return false;
        }
        return true;
    }

    private static String withoutBlanks(String typed) {
        return typed.replace(" ", "");
    }

    private String takeTape() {
        String typed = tape;
        tape = "";
        return typed;
    }

    int land() {
        String typed = takeTape();
        for (int i = 0; i < typed.length(); i++) {
            if (!beginsALand(withoutBlanks(typed.substring(0, i + 1)))) return no(-20 - i);
        }
        String text = withoutBlanks(typed);
        if (text.isEmpty() || text.endsWith("/")) return no(-20 - typed.length());
        int cells = 0;
        String[] rows = text.split("/");
        for (int r = 0; r < rows.length; r++) {
            String plain = rows[r].replaceAll("([a-z])(?![0-9])", "$11");
            int column = 0;
            for (int i = 0; i < plain.length(); i += 2) {
                for (int n = plain.charAt(i + 1) - '0'; n > 0; n--) {
                    w.kinds[12 * r + column] = KINDS.indexOf(plain.charAt(i));
                    w.draws[12 * r + column] = 0;
                    column++;
                    cells++;
                }
            }
        }
        return cells;
    }

    int rules() {
        String typed = takeTape();
        for (int i = 0; i < typed.length(); i++) {
            if (!beginsALaw(withoutBlanks(typed.substring(0, i + 1)))) return no(-20 - i);
        }
        String text = withoutBlanks(typed);
        if (text.isEmpty() || text.length() % 2 == 1) return no(-20 - typed.length());
        for (int i = 0; i < text.length(); i += 2) w.settings["alrbtd".indexOf(text.charAt(i))] = text.charAt(i + 1) - '0';
        return text.length() / 2;
    }

    // ---- nights, searches

    int start(int c, int side) {
        if (!cell(c) || !upTo(side, 3)) return no(BAD);
        if (w.kinds[c] == 3 || w.kinds[c] == 4) return no(NOT);
        w.groups.clear();
        w.groups.put(c * 5 + side, 1099511627776L);
        w.out = true;
        w.minute = 0;
        w.searched = new int[144];
        return 1;
    }

    int night(int n) {
        if (n < 1 || n > 60) return no(BAD);
        if (!w.out) return no(NOT);
        if (w.minute + n > 999) return no(FULL);
        for (int i = 0; i < n; i++) {
            TreeMap<Integer, Long> then = new TreeMap<>();
            for (int key : w.groups.keySet()) spread(key / 5, key % 5, w.groups.get(key), then);
            w.groups = then;
            w.minute++;
        }
        return w.minute;
    }

    private void spread(int c, int side, long many, TreeMap<Integer, Long> then) {
        if (side == SITTING) {
            then.merge(c * 5 + SITTING, many, Long::sum);
            return;
        }
        int[] keys = new int[5];
        long[] numbers = new long[5];
        int[] facing = {side, (side + 3) % 4, (side + 1) % 4, (side + 2) % 4};
        int[] downs = {-1, 0, 1, 0};
        int[] rights = {0, 1, 0, -1};
        for (int way = 0; way < 4; way++) {
            int row = c / 12 + downs[facing[way]];
            int column = c % 12 + rights[facing[way]];
            if (!upTo(row, 11) || !upTo(column, 11)) continue;
            int there = 12 * row + column;
            if (w.kinds[there] == 3 || w.kinds[there] == 4) continue;
            keys[way] = there * 5 + facing[way];
            numbers[way] = w.settings[way] * (1L + w.draws[there]);
        }
        if (w.kinds[c] == 6 && w.minute % 15 == 0) {
            TreeSet<Integer> stops = new TreeSet<>();
            for (int s = 0; s < 144; s++) {
                if (w.kinds[s] == 6) stops.add(s);
            }
            Integer next = stops.higher(c);
            keys[4] = (next == null ? stops.first() : next) * 5 + side;
            numbers[4] = w.settings[5];
        }
        long sit = w.sits[w.kinds[c]] + (w.minute >= 120 ? w.settings[4] : 0);
        long all = sit + Arrays.stream(numbers).sum();
        long left = many;
        for (int way = 0; way < 5 && all > 0; way++) {
            long gone = BigInteger.valueOf(many).multiply(BigInteger.valueOf(numbers[way])).divide(BigInteger.valueOf(all)).longValue();
            left -= gone;
            if (gone > 0) then.merge(keys[way], gone, Long::sum);
        }
        if (left > 0) then.merge(c * 5 + SITTING, left, Long::sum);
    }

    private long partsOf(int c, int side) {
        return w.groups.getOrDefault(c * 5 + side, 0L);
    }

    private long of(int c) {
        long sum = 0;
        for (long many : w.groups.subMap(c * 5, c * 5 + 5).values()) sum += many;
        return sum;
    }

    private long all() {
        long sum = 0;
        for (long many : w.groups.values()) sum += many;
        return sum;
    }

    long parts(int c, int what) {
        if (!cell(c) || !upTo(what, 5)) return no(BAD);
        return what == 5 ? of(c) : partsOf(c, what);
    }

    private static long lowest(BigInteger above, BigInteger below, int part) {
        BigInteger by = above.gcd(below);
        return (part == 0 ? above : below).divide(by).longValueExact();
    }

    long odds(int c, int part) {
        if (!cell(c) || !upTo(part, 1)) return no(BAD);
        if (all() == 0) return no(NONE);
        return lowest(BigInteger.valueOf(of(c)), BigInteger.valueOf(all()), part);
    }

    int where(int what) {
        if (!upTo(what, 1)) return no(BAD);
        List<long[]> cells = new ArrayList<>();
        for (int c = 0; c < 144; c++) {
            long many = what == 0 ? of(c) : partsOf(c, SITTING);
            if (many > 0) cells.add(new long[] {-many, c});
        }
        if (cells.isEmpty()) return no(NONE);
        cells.sort(Arrays::compare);
        return (int) cells.get(0)[1];
    }

    int count(int what) {
        switch (what) {
            case 0: return w.out ? w.minute : no(NONE);
            case 1: return w.teams.size();
            case 2: return w.places.size();
            case 3: return w.jobs.size();
            case 4: return w.book.size();
            case 5: return w.measures.size();
            case 6: return (int) Arrays.stream(w.searched).filter(s -> s > 0).count();
            case 7: return (int) Arrays.stream(w.kinds).filter(k -> k == 6).count();
            case 8: return (int) Arrays.stream(w.kinds).filter(k -> k == 7).count();
            default: return no(BAD);
        }
    }

    private int sight(int sort, int c, boolean sitting, int minute) {
        String[] tables = {"12 14 6 0 8 4 14 10", "12 12 12 0 0 12 12 12", "14 14 4 0 10 8 10 0", "2 8 2 0 0 2 12 10"};
        int kind = w.kinds[c];
        double see = Integer.parseInt(tables[sort].split(" ")[kind]);
        if (sort == 0 && w.settings[8] <= minute || sort == 1 && w.settings[9] <= minute) see = Math.floor(see / 2);
        if (sitting && (kind == 2 || kind == 5)) see = Math.floor(see / 2);
        return sitting && sort == 3 ? 0 : (int) see;
    }

    int sees(int sort, int c, int what) {
        if (!upTo(sort, 3) || !cell(c) || !upTo(what, 1)) return no(BAD);
        if (!w.out) return no(NOT);
        return sight(sort, c, what == 1, w.minute);
    }

    private long seen(int sort, int c, int minute) {
        long sum = 0;
        for (int side = 0; side < 5; side++) sum += (partsOf(c, side) * sight(sort, c, side == SITTING, minute)) >> 4;
        return sum;
    }

    private void change(int c, int side, long many) {
        w.groups.remove(c * 5 + side);
        if (many > 0) w.groups.put(c * 5 + side, many);
    }

    int search(int sort, int c) {
        if (!upTo(sort, 3) || !cell(c)) return no(BAD);
        if (!w.out) return no(NOT);
        long were = all();
        if (were == 0) return no(NONE);
        for (int side = 0; side < 5; side++) {
            long here = partsOf(c, side);
            change(c, side, here - ((here * sight(sort, c, side == SITTING, w.minute)) >> 4));
        }
        w.searched[c]++;
        return (int) ((were - all()) * 1000 / were);
    }

    private int living(int minute) {
        int a = 1000;
        int to = 240 + 60 * w.settings[6] - 20 * w.settings[7];
        for (int m = to + 1; m <= minute; m++) a -= 2 + w.settings[7];
        return a < 0 ? 0 : a;
    }

    int alive(int minute) {
        return upTo(minute, 999) ? living(minute) : no(BAD);
    }

    // ---- teams, calls, jobs

    int team(int sort, int c, int pace) {
        if (!upTo(sort, 3) || !cell(c) || pace < 1 || pace > 9) return no(BAD);
        if (w.teams.size() == 4) return no(FULL);
        w.teams.add(new int[] {sort, c, pace});
        return w.teams.size() - 1;
    }

    int place(int c) {
        if (!cell(c)) return no(BAD);
        if (w.places.size() == 6) return no(FULL);
        if (w.places.contains(c)) return no(NOT);
        w.places.add(c);
        return w.places.size() - 1;
    }

    private static int rows(int a, int b) {
        return Math.max(a / 12, b / 12) - Math.min(a / 12, b / 12);
    }

    private static int columns(int a, int b) {
        return Math.max(a % 12, b % 12) - Math.min(a % 12, b % 12);
    }

    private static int apart(int a, int b) {
        return Math.max(rows(a, b), columns(a, b));
    }

    private long value(int[] team, int place) {
        int then = w.minute + team[2] * (rows(team[1], place) + columns(team[1], place));
        return seen(team[0], place, then) * living(then);
    }

    long whom(int i) {
        if (i < -1 || i > 3) return no(BAD);
        if (!w.out) return no(NOT);
        int n = w.teams.size();
        if (n == 0 || i >= n) return no(NONE);
        long[][] values = new long[n][7];
        for (int t = 0; t < n; t++) {
            for (int p = 0; p < w.places.size(); p++) values[t][p] = value(w.teams.get(t), w.places.get(p));
        }
        long most = -1;
        int[] best = null;
        int rows = (int) Math.pow(7, n);
        for (int code = 0; code < rows; code++) {
            int[] row = new int[n];
            int rest = code;
            for (int t = n - 1; t >= 0; t--) {
                row[t] = rest % 7;
                rest /= 7;
            }
            if (!canBe(row)) continue;
            long sum = 0;
            for (int t = 0; t < n; t++) sum += values[t][row[t]];
            if (sum > most) {
                most = sum;
                best = row;
            }
        }
        return i < 0 ? most : best[i];
    }

    private boolean canBe(int[] row) {
        Set<Integer> taken = new HashSet<>();
        for (int p : row) {
            if (p != 6 && (p >= w.places.size() || !taken.add(p))) return false;
        }
        return true;
    }

    long bound() {
        if (!w.out) return no(NOT);
        if (w.teams.isEmpty()) return no(NONE);
        long sum = 0;
        for (int[] team : w.teams) {
            long most = 0;
            for (int place : w.places) most = Math.max(most, value(team, place));
            sum += most;
        }
        return sum;
    }

    int again(int sort, int what) {
        if (!upTo(sort, 3) || !upTo(what, 1)) return no(BAD);
        if (!w.out) return no(NOT);
        int best = -1;
        for (int c = 143; c >= 0; c--) {
            if (w.searched[c] > 0 && (best < 0 || seen(sort, c, w.minute) >= seen(sort, best, w.minute))) best = c;
        }
        if (best < 0) return no(NONE);
        if (what == 0) return best;
        for (int c = 0; c < 144; c++) {
            if (w.searched[c] == 0 && seen(sort, c, w.minute) >= seen(sort, best, w.minute)) return 0;
        }
        return 1;
    }

    int call(int c, int slip, int t) {
        if (!cell(c) || !upTo(slip, 9) || !upTo(t, 15)) return no(BAD);
        if (!w.out) return no(NOT);
        long were = all();
        if (were == 0) return no(NONE);
        for (int there = 0; there < 144; there++) {
            for (int side = 0; side < 5 && apart(c, there) > slip; side++) {
                change(there, side, (partsOf(there, side) * (16 - t)) >> 4);
            }
        }
        return (int) (all() * 1000 / were);
    }

    long truly(int c, int slip, int t, int part) {
        if (!cell(c) || !upTo(slip, 9) || !upTo(t, 15) || !upTo(part, 1)) return no(BAD);
        if (!w.out) return no(NOT);
        if (all() == 0) return no(NONE);
        long near = 0;
        long cells = 0;
        for (int there = 0; there < 144; there++) {
            if (apart(c, there) > slip) continue;
            near += of(there);
            cells++;
        }
        BigInteger above = BigInteger.valueOf(near).multiply(BigInteger.valueOf(t * 144L));
        BigInteger otherwise = BigInteger.valueOf(all()).multiply(BigInteger.valueOf((16 - t) * cells));
        return lowest(above, above.add(otherwise), part);
    }

    int job(int c, int sort, int minutes) {
        if (!cell(c) || !upTo(sort, 3) || minutes < 1 || minutes > 60) return no(BAD);
        if (w.jobs.size() == 6) return no(FULL);
        w.jobs.add(new int[] {c, sort, minutes});
        return w.jobs.size() - 1;
    }

    long order(int i) {
        if (i < -1 || i > 5) return no(BAD);
        if (!w.out) return no(NOT);
        int n = w.jobs.size();
        if (n == 0 || i >= n) return no(NONE);
        List<int[]> rows = new ArrayList<>();
        rowsOf(n, new int[0], rows);
        Collections.reverse(rows);
        long most = -1;
        int[] best = null;
        for (int[] row : rows) {
            long sum = 0;
            int minute = w.minute;
            for (int j : row) {
                int[] job = w.jobs.get(j);
                sum += seen(job[1], job[0], minute) * living(minute + job[2]);
                minute += job[2];
            }
            if (sum >= most) {
                most = sum;
                best = row;
            }
        }
        return i < 0 ? most : best[i];
    }

    private static void rowsOf(int n, int[] begun, List<int[]> rows) {
        if (begun.length == n) rows.add(begun);
        for (int j = 0; j < n; j++) {
            int next = j;
            if (Arrays.stream(begun).anyMatch(b -> b == next)) continue;
            int[] more = Arrays.copyOf(begun, begun.length + 1);
            more[begun.length] = j;
            rowsOf(n, more, rows);
        }
    }

    // ---- books, doors, neighbours

    private static boolean isFound(long age, long far, long kind) {
        return 0 <= age && age <= 3 && 0 <= far && far <= 99 && 0 <= kind && kind <= 7;
    }

    int found(int age, int far, int kind) {
        if (!isFound(age, far, kind)) return no(BAD);
        if (w.book.size() == 60) return no(FULL);
        w.book.add(new int[] {age, far, kind});
        return w.book.size();
    }

    int share(int kind, int part) {
        if (!upTo(kind, 7) || !upTo(part, 1)) return no(BAD);
        long those = w.book.stream().filter(f -> f[2] == kind).count();
        return (int) lowest(BigInteger.valueOf(those + 1), BigInteger.valueOf(w.book.size() + 8), part);
    }

    private List<Integer> fars(int age, int but) {
        List<Integer> fars = new ArrayList<>();
        for (int f = 0; f < w.book.size(); f++) {
            if (f != but && w.book.get(f)[0] == age) fars.add(w.book.get(f)[1]);
        }
        Collections.sort(fars);
        return fars;
    }

    private static int within(List<Integer> fars, int q) {
        return fars.get((int) Math.ceil(q * fars.size() / 4.0) - 1);
    }

    int span(int age, int q) {
        if (!upTo(age, 3) || q < 1 || q > 4) return no(BAD);
        List<Integer> fars = fars(age, -1);
        return fars.isEmpty() ? no(NONE) : within(fars, q);
    }

    int held() {
        int sum = 0;
        for (int f = 0; f < w.book.size(); f++) {
            List<Integer> others = fars(w.book.get(f)[0], f);
            if (!others.isEmpty() && w.book.get(f)[1] <= within(others, 3)) sum++;
        }
        return sum;
    }

    int measure(int keeps, int shuts) {
        if (!upTo(keeps, 15) || !upTo(shuts, 15)) return no(BAD);
        if (w.measures.size() == 8) return no(FULL);
        w.measures.add(new int[] {keeps, shuts});
        return w.measures.size() - 1;
    }

    /** What all of 2^32 a set leaves, as a part of 2^32. */
    private BigInteger left(int set) {
        BigInteger left = BigInteger.ONE.shiftLeft(32);
        for (int m = 0; m < w.measures.size(); m++) {
            if ((set >> m & 1) == 1) left = left.multiply(BigInteger.valueOf(16 - w.measures.get(m)[0])).shiftRight(4);
        }
        return left;
    }

    private int shut(int set) {
        int sum = 0;
        for (int m = 0; m < w.measures.size(); m++) sum += (set >> m & 1) * w.measures.get(m)[1];
        return sum;
    }

    long leaves(int set, int part) {
        if (set < 0 || set >= 1 << w.measures.size() || !upTo(part, 1)) return no(BAD);
        return lowest(left(set), BigInteger.ONE.shiftLeft(32), part);
    }

    int least(int a, int what) {
        if (!upTo(a, 16) || !upTo(what, 1)) return no(BAD);
        BigInteger most = BigInteger.valueOf(a).shiftLeft(28);
        int best = -1;
        for (int set = (1 << w.measures.size()) - 1; set >= 0; set--) {
            if (left(set).compareTo(most) <= 0 && (best < 0 || shut(set) <= shut(best))) best = set;
        }
        if (best < 0) return no(NONE);
        return what == 0 ? best : shut(best);
    }

    long net(int k, int i) {
        if (k < 1 || k > 4 || i < -1 || i > k - 1) return no(BAD);
        List<Integer> houses = new ArrayList<>();
        for (int c = 0; c < 144; c++) {
            if (w.kinds[c] == 7 && houses.size() < 10) houses.add(c);
        }
        if (houses.size() < k) return no(NONE);
        long most = -1;
        int[] best = null;
        for (int set = 0; set < 1 << houses.size(); set++) {
            if (Integer.bitCount(set) != k) continue;
            int[] row = new int[k];
            int size = 0;
            Set<Integer> cells = new HashSet<>();
            for (int h = 0; h < houses.size(); h++) {
                if ((set >> h & 1) == 0) continue;
                row[size++] = houses.get(h);
                for (int c = 0; c < 144; c++) {
                    if (apart(c, houses.get(h)) <= 1) cells.add(c);
                }
            }
            long sum = 0;
            for (int c : cells) sum += of(c);
            if (sum > most || sum == most && Arrays.compare(row, best) < 0) {
                most = sum;
                best = row;
            }
        }
        return i < 0 ? most : best[i];
    }

    int clear() {
        int all = w.teams.size() + w.places.size() + w.jobs.size() + w.book.size() + w.measures.size();
        w.teams.clear();
        w.places.clear();
        w.jobs.clear();
        w.book.clear();
        w.measures.clear();
        return all;
    }

    int image() {
        kept = w.copied();
        return 1;
    }

    int restore() {
        if (kept == null) return no(NONE);
        w = kept.copied();
        return 1;
    }

    int status(int reason) {
        return upTo(reason, 8) ? counts[reason] : no(BAD);
    }

    // ---- sheets: the machine itself is asked

    private static Object row(int lane, int n) {
        switch (lane) {
            case 0: return new byte[n];
            case 1: return new short[n];
            case 2: return new int[n];
            default: return new long[n];
        }
    }

    private static Object as(Object sheet, int lane) {
        if (sheet == null) throw new NullPointerException();
        switch (lane) {
            case 0: return (byte[]) sheet;
            case 1: return (short[]) sheet;
            case 2: return (int[]) sheet;
            default: return (long[]) sheet;
        }
    }

    private int machine(RuntimeException e) {
        if (e instanceof NullPointerException) return no(NULL);
        if (e instanceof ClassCastException || e instanceof ArrayStoreException) return no(CAST);
        if (e instanceof IndexOutOfBoundsException) return no(INDEX);
        if (e instanceof NegativeArraySizeException) return no(SIZE);
        throw e;
    }

    private static void write(Object row, int i, long v) {
        if (row instanceof byte[]) ((byte[]) row)[i] = (byte) v;
        else if (row instanceof short[]) ((short[]) row)[i] = (short) v;
        else if (row instanceof int[]) ((int[]) row)[i] = (int) v;
        else ((long[]) row)[i] = v;
    }

    int finds(int sheet, int lane, int i, int n) {
        if (!upTo(sheet, 3) || !upTo(lane, 3) || n < 1 || n > 8) return no(BAD);
        long[] items = new long[3 * n];
        try {
            Object row = as(sheets[sheet], lane);
            for (int k = 0; k < 3 * n; k++) items[k] = Array.getLong(row, i + k);
        } catch (RuntimeException e) {
            return machine(e);
        }
        for (int f = 0; f < n; f++) {
            if (!isFound(items[3 * f], items[3 * f + 1], items[3 * f + 2])) return no(NOT);
        }
        if (w.book.size() + n > 60) return no(FULL);
        for (int f = 0; f < n; f++) found((int) items[3 * f], (int) items[3 * f + 1], (int) items[3 * f + 2]);
        return w.book.size();
    }

    int film(int row, int sheet, int lane, int i) {
        if (!upTo(row, 11) || !upTo(sheet, 3) || !upTo(lane, 3)) return no(BAD);
        try {
            Object target = as(sheets[sheet], lane);
            Array.get(target, i);
            Array.get(target, i + 11);
            if (all() == 0) return no(NONE);
            for (int c = 0; c < 12; c++) write(target, i + c, of(12 * row + c) * 1000 / all());
        } catch (RuntimeException e) {
            return machine(e);
        }
        return 12;
    }

    int sheet(int sheet, int lane, int n) {
        if (!upTo(sheet, 3) || !upTo(lane, 3) || n > 24) return no(BAD);
        try {
            sheets[sheet] = row(lane, n);
        } catch (RuntimeException e) {
            return machine(e);
        }
        return n;
    }

    int drop(int sheet) {
        if (!upTo(sheet, 3)) return no(BAD);
        if (sheets[sheet] == null) return no(NULL);
        int n = Array.getLength(sheets[sheet]);
        sheets[sheet] = null;
        return n;
    }

    int item(int sheet, int lane, int i, long v) {
        if (!upTo(sheet, 3) || !upTo(lane, 3)) return no(BAD);
        try {
            write(as(sheets[sheet], lane), i, v);
        } catch (RuntimeException e) {
            return machine(e);
        }
        return 1;
    }

    int copy(int from, int i, int to, int j, int n) {
        if (!upTo(from, 3) || !upTo(to, 3)) return no(BAD);
        try {
            System.arraycopy(sheets[from], i, sheets[to], j, n);
        } catch (RuntimeException e) {
            return machine(e);
        }
        return n;
    }
}
