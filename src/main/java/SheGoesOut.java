import java.util.Arrays;

/**
 * One who wanders by night over a land of cells, where she may be by minutes, and who looks for her.
 *
 * The face refuses what the document refuses, counts it, and hands the rest on; what an IMAGE keeps
 * stands in one State, so that an IMAGE is one copy of it. Every row is made once, with the object,
 * and used again: no call makes anything.
 */
public final class SheGoesOut {
    public static final int BAD = -1, NOT = -2, FULL = -3, NONE = -4, NULL = -11, CAST = -12, INDEX = -13, SIZE = -14;

    private static final int WIDTH = 12, CELLS = WIDTH * WIDTH, SIDES = 4, KINDS = 8, SORTS = 4;
    private static final int WOOD = 2, WALL = 3, WATER = 4, HEDGE = 5, STOP = 6, HOUSE = 7;
    private static final int LAST_MINUTE = 999, SIXTEENTHS = 16;
    private static final int REASONS = 9, FAULT_REASON = 8, FAULT = -20, MOST_COUNTED = 1000000;

    private final State now = new State();
    private final State kept = new State();
    private final Net net = new Net();
    private final Tape tape = new Tape();
    private final Sheets sheets = new Sheets();
    private final int[] refused = new int[REASONS];
    private boolean imaged = false;

    public SheGoesOut() {
    }

    // ---- 1 the land, settings

    public int kind(int cell, int v) {
        if (!isCell(cell) || !isKind(v)) return refuse(BAD);
        int was = now.land.kinds[cell];
        now.land.kinds[cell] = v;
        return was;
    }

    public int draw(int cell, int v) {
        if (!isCell(cell) || !isIn(v, 0, 9)) return refuse(BAD);
        int was = now.land.draws[cell];
        now.land.draws[cell] = v;
        return was;
    }

    public int told(int cell, int what) {
        if (!isCell(cell)) return refuse(BAD);
        switch (what) {
            case 0: return now.land.kinds[cell];
            case 1: return now.land.draws[cell];
            case 2: return now.land.searched[cell];
            default: return refuse(BAD);
        }
    }

    public int set(int what, int v) {
        if (!isIn(what, 0, Law.SETTINGS - 1) || !isIn(v, 0, Law.highest(what))) return refuse(BAD);
        int was = now.law.settings[what];
        now.law.settings[what] = v;
        return was;
    }

    public int sits(int kind, int v) {
        if (!isKind(kind) || !isIn(v, 0, 9)) return refuse(BAD);
        int was = now.law.sits[kind];
        now.law.sits[kind] = v;
        return was;
    }

    public int type(long w, int n) {
        if (!isIn(n, 1, 8) || !Tape.canHold(w, n)) return refuse(BAD);
        if (n > tape.room()) return refuse(FULL);
        return tape.append(w, n);
    }

    public int land() {
        return answered(tape.readLand(now.land));
    }

    public int rules() {
        return answered(tape.readLaw(now.law));
    }

    // ---- 2 nights, searches

    public int start(int cell, int side) {
        if (!isCell(cell) || !isIn(side, 0, SIDES - 1)) return refuse(BAD);
        if (now.land.isBarred(cell)) return refuse(NOT);
        now.land.forgetSearches();
        now.night.setOut(cell, side);
        return 1;
    }

    public int night(int n) {
        if (!isIn(n, 1, 60)) return refuse(BAD);
        if (!now.night.isOut()) return refuse(NOT);
        if (now.night.minute + n > LAST_MINUTE) return refuse(FULL);
        for (int i = 0; i < n; i++) now.night.pass(now.land, now.law);
        return now.night.minute;
    }

    public long parts(int cell, int what) {
        if (!isCell(cell)) return refuse(BAD);
        switch (what) {
            case 0: case 1: case 2: case 3: return now.night.going[cell * SIDES + what];
            case 4: return now.night.sitting[cell];
            case 5: return now.night.together(cell);
            default: return refuse(BAD);
        }
    }

    public long odds(int cell, int part) {
        if (!isCell(cell) || !isPart(part)) return refuse(BAD);
        long all = now.night.all();
        if (all <= 0) return refuse(NONE);
        return lowest(now.night.together(cell), all, part);
    }

    public int where(int what) {
        if (!isIn(what, 0, 1)) return refuse(BAD);
        int cell = now.night.fullest(what == 1);
        return cell < 0 ? refuse(NONE) : cell;
    }

    public int count(int what) {
        switch (what) {
            case 0: return now.night.isOut() ? now.night.minute : refuse(NONE);
            case 1: return now.teams.count;
            case 2: return now.teams.placeCount;
            case 3: return now.jobs.count;
            case 4: return now.book.count;
            case 5: return now.door.count;
            case 6: return now.land.searchedCells();
            case 7: return now.land.cellsOf(STOP);
            case 8: return now.land.cellsOf(HOUSE);
            default: return refuse(BAD);
        }
    }

    public int sees(int sort, int cell, int what) {
        if (!isSort(sort) || !isCell(cell) || !isIn(what, 0, 1)) return refuse(BAD);
        if (!now.night.isOut()) return refuse(NOT);
        return now.law.sight(sort, now.land.kinds[cell], what == 1, now.night.minute);
    }

    public int search(int sort, int cell) {
        if (!isSort(sort) || !isCell(cell)) return refuse(BAD);
        if (!now.night.isOut()) return refuse(NOT);
        long all = now.night.all();
        if (all <= 0) return refuse(NONE);
        return thousandths(now.lookFor(sort, cell), all);
    }

    public int alive(int minute) {
        if (!isIn(minute, 0, LAST_MINUTE)) return refuse(BAD);
        return now.law.livingAt(minute);
    }

    // ---- 3 teams, calls, jobs

    public int team(int sort, int cell, int pace) {
        if (!isSort(sort) || !isCell(cell) || !isIn(pace, 1, 9)) return refuse(BAD);
        return answered(now.teams.addTeam(sort, cell, pace));
    }

    public int place(int cell) {
        if (!isCell(cell)) return refuse(BAD);
        return answered(now.teams.addPlace(cell));
    }

    public long whom(int i) {
        if (!isIn(i, -1, Teams.MOST - 1)) return refuse(BAD);
        if (!now.night.isOut()) return refuse(NOT);
        if (now.teams.count == 0 || i >= now.teams.count) return refuse(NONE);
        now.teams.choose(now);
        return i < 0 ? now.teams.most : now.teams.chosen[i];
    }

    public long bound() {
        if (!now.night.isOut()) return refuse(NOT);
        if (now.teams.count == 0) return refuse(NONE);
        return now.teams.greatestTogether(now);
    }

    public int again(int sort, int what) {
        if (!isSort(sort) || !isIn(what, 0, 1)) return refuse(BAD);
        if (!now.night.isOut()) return refuse(NOT);
        int cell = now.bestOf(sort, true);
        if (cell < 0) return refuse(NONE);
        return what == 0 ? cell : now.isWorthMore(sort, cell) ? 1 : 0;
    }

    public int call(int cell, int slip, int t) {
        if (!isCell(cell) || !isIn(slip, 0, 9) || !isIn(t, 0, 15)) return refuse(BAD);
        if (!now.night.isOut()) return refuse(NOT);
        long all = now.night.all();
        if (all <= 0) return refuse(NONE);
        now.night.doubtFarther(cell, slip, SIXTEENTHS - t);
        return thousandths(now.night.all(), all);
    }

    public long truly(int cell, int slip, int t, int part) {
        if (!isCell(cell) || !isIn(slip, 0, 9) || !isIn(t, 0, 15) || !isPart(part)) return refuse(BAD);
        if (!now.night.isOut()) return refuse(NOT);
        long all = now.night.all();
        if (all <= 0) return refuse(NONE);
        long trueWay = now.night.near(cell, slip) * t * CELLS;
        long otherWay = all * (SIXTEENTHS - t) * Land.cellsNear(cell, slip);
        return lowest(trueWay, trueWay + otherWay, part);
    }

    public int job(int cell, int sort, int minutes) {
        if (!isCell(cell) || !isSort(sort) || !isIn(minutes, 1, 60)) return refuse(BAD);
        return answered(now.jobs.add(cell, sort, minutes));
    }

    public long order(int i) {
        if (!isIn(i, -1, Jobs.MOST - 1)) return refuse(BAD);
        if (!now.night.isOut()) return refuse(NOT);
        if (now.jobs.count == 0 || i >= now.jobs.count) return refuse(NONE);
        now.jobs.choose(now);
        return i < 0 ? now.jobs.most : now.jobs.chosen[i];
    }

    // ---- 4 books, doors, neighbours

    public int found(int age, int far, int kind) {
        if (!Book.isAsTold(age, far, kind)) return refuse(BAD);
        return answered(now.book.add(age, far, kind));
    }

    public int share(int kind, int part) {
        if (!isKind(kind) || !isPart(part)) return refuse(BAD);
        return (int) lowest(now.book.ofKind(kind) + 1, now.book.count + KINDS, part);
    }

    public int span(int age, int q) {
        if (!isIn(age, 0, Book.AGES - 1) || !isIn(q, 1, 4)) return refuse(BAD);
        int far = now.book.reach(age, q);
        return far < 0 ? refuse(NONE) : far;
    }

    public int held() {
        return now.book.heldUp();
    }

    public int measure(int keeps, int shuts) {
        if (!isIn(keeps, 0, 15) || !isIn(shuts, 0, 15)) return refuse(BAD);
        return answered(now.door.add(keeps, shuts));
    }

    public long leaves(int set, int part) {
        if (!now.door.isSet(set) || !isPart(part)) return refuse(BAD);
        return lowest(now.door.left(set), now.door.whole(set), part);
    }

    public int least(int a, int what) {
        if (!isIn(a, 0, SIXTEENTHS) || !isIn(what, 0, 1)) return refuse(BAD);
        int set = now.door.mildest(a);
        if (set < 0) return refuse(NONE);
        return what == 0 ? set : now.door.shutIn(set);
    }

    public long net(int k, int i) {
        if (!isIn(k, 1, Net.MOST) || !isIn(i, -1, k - 1)) return refuse(BAD);
        if (now.land.cellsOf(HOUSE) < k) return refuse(NONE);
        net.choose(now, k);
        return i < 0 ? net.most : net.chosen[i];
    }

    public int clear() {
        return now.teams.empty() + now.jobs.empty() + now.door.empty() + now.book.empty();
    }

    public int image() {
        kept.become(now);
        imaged = true;
        return 1;
    }

    public int restore() {
        if (!imaged) return refuse(NONE);
        now.become(kept);
        return 1;
    }

    public int status(int reason) {
        return isIn(reason, 0, REASONS - 1) ? refused[reason] : refuse(BAD);
    }

    // ---- 5 sheets 0 .. 3

    public int finds(int sheet, int lane, int i, int n) {
        if (!Sheets.isSheet(sheet) || !Sheets.isLane(lane) || !isIn(n, 1, 8)) return refuse(BAD);
        int wrong = sheets.wrong(sheet, lane, i, n * Book.ITEMS);
        if (wrong < 0) return refuse(wrong);
        if (!areFindsAsTold(sheet, i, n)) return refuse(NOT);
        if (n > Book.MOST - now.book.count) return refuse(FULL);
        for (int f = 0; f < n; f++) {
            int at = i + f * Book.ITEMS;
            now.book.add((int) sheets.at(sheet, at), (int) sheets.at(sheet, at + 1), (int) sheets.at(sheet, at + 2));
        }
        return now.book.count;
    }

    public int film(int row, int sheet, int lane, int i) {
        if (!isIn(row, 0, WIDTH - 1) || !Sheets.isSheet(sheet) || !Sheets.isLane(lane)) return refuse(BAD);
        int wrong = sheets.wrong(sheet, lane, i, WIDTH);
        if (wrong < 0) return refuse(wrong);
        long all = now.night.all();
        if (all <= 0) return refuse(NONE);
        for (int column = 0; column < WIDTH; column++) {
            sheets.put(sheet, i + column, thousandths(now.night.together(row * WIDTH + column), all));
        }
        return WIDTH;
    }

    public int sheet(int sheet, int lane, int n) {
        if (!Sheets.isSheet(sheet) || !Sheets.isLane(lane) || n > Sheets.MOST) return refuse(BAD);
        if (n < 0) return refuse(SIZE);
        sheets.renew(sheet, lane, n);
        return n;
    }

    public int drop(int sheet) {
        if (!Sheets.isSheet(sheet)) return refuse(BAD);
        if (!sheets.isThere(sheet)) return refuse(NULL);
        return sheets.empty(sheet);
    }

    public int item(int sheet, int lane, int i, long v) {
        if (!Sheets.isSheet(sheet) || !Sheets.isLane(lane)) return refuse(BAD);
        int wrong = sheets.wrong(sheet, lane, i, 1);
        if (wrong < 0) return refuse(wrong);
        sheets.put(sheet, i, v);
        return 1;
    }

    public int copy(int from, int i, int to, int j, int n) {
        if (!Sheets.isSheet(from) || !Sheets.isSheet(to)) return refuse(BAD);
        if (!sheets.isThere(from) || !sheets.isThere(to)) return refuse(NULL);
        if (!sheets.areAlike(from, to)) return refuse(CAST);
        if (!sheets.holds(from, i, n) || !sheets.holds(to, j, n)) return refuse(INDEX);
        sheets.move(from, i, to, j, n);
        return n;
    }

    // ---- what the face asks of numbers

    private static boolean isIn(int v, int low, int high) {
        return v >= low && v <= high;
    }

    private static boolean isCell(int cell) {
        return isIn(cell, 0, CELLS - 1);
    }

    private static boolean isKind(int kind) {
        return isIn(kind, 0, KINDS - 1);
    }

    private static boolean isSort(int sort) {
        return isIn(sort, 0, SORTS - 1);
    }

    private static boolean isPart(int part) {
        return isIn(part, 0, 1);
    }

    private boolean areFindsAsTold(int sheet, int i, int n) {
        for (int f = 0; f < n; f++) {
            int at = i + f * Book.ITEMS;
            if (!Book.isAsTold(sheets.at(sheet, at), sheets.at(sheet, at + 1), sheets.at(sheet, at + 2))) return false;
        }
        return true;
    }

    private static int thousandths(long parts, long all) {
        return all <= 0 ? 0 : (int) (parts * 1000 / all);
    }

    private static long lowest(long above, long below, int part) {
        long divisor = commonDivisor(above, below);
        if (divisor <= 0) return 0;
        return (part == 0 ? above : below) / divisor;
    }

    private static long commonDivisor(long a, long b) {
        // Euclid on longs ends within a hundred steps; the counter only shows that it does.
        for (int step = 0; step < 1000 && b != 0; step++) {
            long rest = a % b;
            a = b;
            b = rest;
        }
        return a;
    }

    private int answered(int answer) {
        return answer < 0 ? refuse(answer) : answer;
    }

    private int refuse(int answer) {
        int reason = reasonOf(answer);
        if (isIn(reason, 0, REASONS - 1) && refused[reason] < MOST_COUNTED) refused[reason]++;
        return answer;
    }

    private static int reasonOf(int answer) {
        if (answer >= NONE) return BAD - answer;
        return answer <= FAULT ? FAULT_REASON : NULL - answer + 4;
    }

    // ---- the classes inside

    /** All that an IMAGE keeps. */
    private static final class State {
        final Land land = new Land();
        final Law law = new Law();
        final Night night = new Night();
        final Teams teams = new Teams();
        final Jobs jobs = new Jobs();
        final Book book = new Book();
        final Door door = new Door();

        void become(State other) {
            land.become(other.land);
            law.become(other.law);
            night.become(other.night);
            teams.become(other.teams);
            jobs.become(other.jobs);
            book.become(other.book);
            door.become(other.door);
        }

        long seen(int sort, int cell, int minute) {
            int ofKind = land.kinds[cell];
            return night.seen(cell, law.sight(sort, ofKind, false, minute), law.sight(sort, ofKind, true, minute));
        }

        long worth(int sort, int cell, int seenAt, int aliveAt) {
            return seen(sort, cell, seenAt) * law.livingAt(aliveAt);
        }

        long lookFor(int sort, int cell) {
            int ofKind = land.kinds[cell];
            long seen = seen(sort, cell, night.minute);
            night.lose(cell, law.sight(sort, ofKind, false, night.minute), law.sight(sort, ofKind, true, night.minute));
            land.searched[cell]++;
            return seen;
        }

        /** The first CELL in which most would be SEEN now, of those SEARCHED or of the others; -1: of none. */
        int bestOf(int sort, boolean searched) {
            int best = -1;
            long most = -1;
            for (int cell = 0; cell < CELLS; cell++) {
                if (land.searched[cell] > 0 != searched) continue;
                long seen = seen(sort, cell, night.minute);
                if (seen > most) {
                    most = seen;
                    best = cell;
                }
            }
            return best;
        }

        boolean isWorthMore(int sort, int cell) {
            int fresh = bestOf(sort, false);
            return fresh < 0 || seen(sort, cell, night.minute) > seen(sort, fresh, night.minute);
        }
    }

    /** THE LAND: what its CELLS are, and how often they were SEARCHED. */
    private static final class Land {
        final int[] kinds = new int[CELLS];
        final int[] draws = new int[CELLS];
        final int[] searched = new int[CELLS];

        void become(Land other) {
            System.arraycopy(other.kinds, 0, kinds, 0, CELLS);
            System.arraycopy(other.draws, 0, draws, 0, CELLS);
            System.arraycopy(other.searched, 0, searched, 0, CELLS);
        }

        void lay(int cell, int ofKind) {
            if (cell < 0 || cell >= CELLS) return;
            kinds[cell] = ofKind;
            draws[cell] = 0;
        }

        void forgetSearches() {
            Arrays.fill(searched, 0);
        }

        boolean isBarred(int cell) {
            return kinds[cell] == WALL || kinds[cell] == WATER;
        }

        int cellsOf(int ofKind) {
            int sum = 0;
            for (int cell = 0; cell < CELLS; cell++) {
                if (kinds[cell] == ofKind) sum++;
            }
            return sum;
        }

        int searchedCells() {
            int sum = 0;
            for (int cell = 0; cell < CELLS; cell++) {
                if (searched[cell] > 0) sum++;
            }
            return sum;
        }

        /** How much the CELL on a SIDE of this one draws: 0 where she can't go. */
        int lure(int cell, int side) {
            int there = beside(cell, side);
            return there < 0 || isBarred(there) ? 0 : 1 + draws[there];
        }

        /** The next STOP behind a CELL by numbers, round; the CELL itself if there is no other. */
        int nextStop(int cell) {
            for (int step = 1; step < CELLS; step++) {
                int there = (cell + step) % CELLS;
                if (kinds[there] == STOP) return there;
            }
            return cell;
        }

        static int beside(int cell, int side) {
            switch (side) {
                case 0: return cell < WIDTH ? -1 : cell - WIDTH;
                case 1: return cell % WIDTH == WIDTH - 1 ? -1 : cell + 1;
                case 2: return cell >= CELLS - WIDTH ? -1 : cell + WIDTH;
                default: return cell % WIDTH == 0 ? -1 : cell - 1;
            }
        }

        /** The i-th (0 .. 8) of the CELLS no farther than 1, itself among them; -1: there is none. */
        static int neighbour(int cell, int i) {
            int row = cell / WIDTH + i / 3 - 1;
            int column = cell % WIDTH + i % 3 - 1;
            return isIn(row, 0, WIDTH - 1) && isIn(column, 0, WIDTH - 1) ? row * WIDTH + column : -1;
        }

        static int rowsApart(int a, int b) {
            return Math.abs(a / WIDTH - b / WIDTH);
        }

        static int columnsApart(int a, int b) {
            return Math.abs(a % WIDTH - b % WIDTH);
        }

        static boolean isNear(int a, int b, int slip) {
            return rowsApart(a, b) <= slip && columnsApart(a, b) <= slip;
        }

        static int cellsNear(int cell, int slip) {
            int sum = 0;
            for (int there = 0; there < CELLS; there++) {
                if (isNear(cell, there, slip)) sum++;
            }
            return sum;
        }
    }

    /** SETTINGS and SITS: how she goes, how long she lives, how well SORTS see. */
    private static final class Law {
        static final int SETTINGS = 10;
        private static final int TIRE = 4, RIDE = 5, CLOTHES = 6, COLD = 7, DARK = 8, DEW = 9;
        private static final int TIRED_FROM = 120, BUS_EVERY = 15;
        private static final int WALKERS = 0, DOG = 1, ASKERS = 3;
        private static final int[] SIGHTS = {
            12, 14, 6, 0, 8, 4, 14, 10,
            12, 12, 12, 0, 0, 12, 12, 12,
            14, 14, 4, 0, 10, 8, 10, 0,
            2, 8, 2, 0, 0, 2, 12, 10,
        };

        final int[] settings = {8, 3, 2, 1, 2, 4, 1, 4, 0, 240};
        final int[] sits = {1, 0, 3, 0, 0, 9, 2, 2};

        void become(Law other) {
            System.arraycopy(other.settings, 0, settings, 0, SETTINGS);
            System.arraycopy(other.sits, 0, sits, 0, KINDS);
        }

        static int highest(int setting) {
            if (setting == CLOTHES) return 3;
            return setting == DARK || setting == DEW ? LAST_MINUTE : 9;
        }

        int sitDown(int ofKind, int minute) {
            return sits[ofKind] + (minute >= TIRED_FROM ? settings[TIRE] : 0);
        }

        int rideOn(int ofKind, int minute) {
            return ofKind == STOP && minute % BUS_EVERY == 0 ? settings[RIDE] : 0;
        }

        int livingAt(int minute) {
            int last = 240 + 60 * settings[CLOTHES] - 20 * settings[COLD];
            if (minute <= last) return 1000;
            return Math.max(0, 1000 - (2 + settings[COLD]) * (minute - last));
        }

        int sight(int sort, int ofKind, boolean ofSitting, int minute) {
            int sixteenths = SIGHTS[sort * KINDS + ofKind];
            if (sort == WALKERS && minute >= settings[DARK]) sixteenths /= 2;
            if (sort == DOG && minute >= settings[DEW]) sixteenths /= 2;
            if (!ofSitting) return sixteenths;
            if (sort == ASKERS) return 0;
            return ofKind == WOOD || ofKind == HEDGE ? sixteenths / 2 : sixteenths;
        }
    }

    /** Her PARTS, and the MINUTE it is (below 0: she has not gone out). */
    private static final class Night {
        private static final long ALL_AT_FIRST = 1L << 40;
        // By AHEAD, LEFT, RIGHT, BACK, as the SETTINGS stand: how far SIDES turn.
        private static final int[] TURNS = {0, 3, 1, 2};

        final long[] going = new long[CELLS * SIDES];
        final long[] sitting = new long[CELLS];
        // All go at once, so those who come are kept apart from those who still go.
        private final long[] coming = new long[CELLS * SIDES];
        private final int[] lures = new int[SIDES];
        int minute = -1;

        void become(Night other) {
            System.arraycopy(other.going, 0, going, 0, CELLS * SIDES);
            System.arraycopy(other.sitting, 0, sitting, 0, CELLS);
            minute = other.minute;
        }

        boolean isOut() {
            return minute >= 0;
        }

        void setOut(int cell, int side) {
            Arrays.fill(going, 0L);
            Arrays.fill(sitting, 0L);
            going[cell * SIDES + side] = ALL_AT_FIRST;
            minute = 0;
        }

        long together(int cell) {
            long sum = sitting[cell];
            for (int side = 0; side < SIDES; side++) sum += going[cell * SIDES + side];
            return sum;
        }

        long all() {
            long sum = 0;
            for (int cell = 0; cell < CELLS; cell++) sum += together(cell);
            return sum;
        }

        /** The first CELL with most PARTS, or with most that SIT; -1: there are none. */
        int fullest(boolean ofSitting) {
            int best = -1;
            long most = 0;
            for (int cell = 0; cell < CELLS; cell++) {
                long here = ofSitting ? sitting[cell] : together(cell);
                if (here > most) {
                    most = here;
                    best = cell;
                }
            }
            return best;
        }

        void pass(Land land, Law law) {
            Arrays.fill(coming, 0L);
            for (int cell = 0; cell < CELLS; cell++) {
                if (together(cell) > sitting[cell]) leave(land, law, cell);
            }
            System.arraycopy(coming, 0, going, 0, CELLS * SIDES);
            minute++;
        }

        private void leave(Land land, Law law, int cell) {
            for (int side = 0; side < SIDES; side++) lures[side] = land.lure(cell, side);
            int sit = law.sitDown(land.kinds[cell], minute);
            int ride = law.rideOn(land.kinds[cell], minute);
            int stop = ride > 0 ? land.nextStop(cell) : cell;
            for (int side = 0; side < SIDES; side++) {
                long parts = going[cell * SIDES + side];
                if (parts <= 0) continue;
                long whole = sit + ride + pulls(law, side);
                long gone = turn(law, cell, side, whole) + arrive(stop, side, portion(parts, ride, whole));
                sitting[cell] += parts - gone;
            }
        }

        /** Nothing goes where nothing pulls: so all who are left there sit down, as what is cut does. */
        private static long portion(long parts, long number, long whole) {
            return whole <= 0 ? 0 : parts * number / whole;
        }

        private int pulls(Law law, int side) {
            int sum = 0;
            for (int turn = 0; turn < SIDES; turn++) sum += law.settings[turn] * lures[(side + TURNS[turn]) % SIDES];
            return sum;
        }

        /** Those in a CELL that face a SIDE go on over the land; how many go. */
        private long turn(Law law, int cell, int side, long whole) {
            long parts = going[cell * SIDES + side];
            long gone = 0;
            for (int turn = 0; turn < SIDES; turn++) {
                int facing = (side + TURNS[turn]) % SIDES;
                long pull = law.settings[turn] * lures[facing];
                gone += arrive(Land.beside(cell, facing), facing, portion(parts, pull, whole));
            }
            return gone;
        }

        private long arrive(int cell, int facing, long parts) {
            if (cell < 0) return 0;
            coming[cell * SIDES + facing] += parts;
            return parts;
        }

        long seen(int cell, int sight, int sittingSight) {
            long sum = sitting[cell] * sittingSight / SIXTEENTHS;
            for (int side = 0; side < SIDES; side++) sum += going[cell * SIDES + side] * sight / SIXTEENTHS;
            return sum;
        }

        void lose(int cell, int sight, int sittingSight) {
            sitting[cell] -= sitting[cell] * sittingSight / SIXTEENTHS;
            for (int side = 0; side < SIDES; side++) {
                int at = cell * SIDES + side;
                going[at] -= going[at] * sight / SIXTEENTHS;
            }
        }

        void doubtFarther(int cell, int slip, int sixteenths) {
            for (int there = 0; there < CELLS; there++) {
                if (Land.isNear(cell, there, slip)) continue;
                sitting[there] = sitting[there] * sixteenths / SIXTEENTHS;
                for (int side = 0; side < SIDES; side++) {
                    int at = there * SIDES + side;
                    going[at] = going[at] * sixteenths / SIXTEENTHS;
                }
            }
        }

        long near(int cell, int slip) {
            long sum = 0;
            for (int there = 0; there < CELLS; there++) {
                if (Land.isNear(cell, there, slip)) sum += together(there);
            }
            return sum;
        }
    }

    /** TEAMS and PLACES, and WHOM to send where. */
    private static final class Teams {
        static final int MOST = 4, MOST_PLACES = 6;

        private final int[] sorts = new int[MOST];
        private final int[] cells = new int[MOST];
        private final int[] paces = new int[MOST];
        private final int[] places = new int[MOST_PLACES];
        private final long[] values = new long[MOST * MOST_PLACES];
        private final int[] tried = new int[MOST];
        final int[] chosen = new int[MOST];
        int count = 0;
        int placeCount = 0;
        long most = 0;

        void become(Teams other) {
            System.arraycopy(other.sorts, 0, sorts, 0, MOST);
            System.arraycopy(other.cells, 0, cells, 0, MOST);
            System.arraycopy(other.paces, 0, paces, 0, MOST);
            System.arraycopy(other.places, 0, places, 0, MOST_PLACES);
            count = other.count;
            placeCount = other.placeCount;
        }

        int empty() {
            int were = count + placeCount;
            count = 0;
            placeCount = 0;
            return were;
        }

        int addTeam(int sort, int cell, int pace) {
            if (count >= MOST) return FULL;
            sorts[count] = sort;
            cells[count] = cell;
            paces[count] = pace;
            return count++;
        }

        private boolean hasPlace(int cell) {
            for (int p = 0; p < placeCount; p++) {
                if (places[p] == cell) return true;
            }
            return false;
        }

        int addPlace(int cell) {
            if (placeCount >= MOST_PLACES) return FULL;
            if (hasPlace(cell)) return NOT;
            places[placeCount] = cell;
            return placeCount++;
        }

        private void weigh(State state) {
            for (int t = 0; t < count; t++) {
                for (int p = 0; p < placeCount; p++) {
                    int way = Land.rowsApart(cells[t], places[p]) + Land.columnsApart(cells[t], places[p]);
                    int coming = state.night.minute + paces[t] * way;
                    values[t * MOST_PLACES + p] = state.worth(sorts[t], places[p], coming, coming);
                }
            }
        }

        void choose(State state) {
            weigh(state);
            most = -1;
            send(0, 0, 0L);
        }

        /** Rows are tried from the first on, so of like ones the first stays. */
        private void send(int team, int taken, long sum) {
            if (team >= count) {
                if (sum > most) {
                    most = sum;
                    System.arraycopy(tried, 0, chosen, 0, MOST);
                }
                return;
            }
            for (int p = 0; p < placeCount; p++) {
                if ((taken & 1 << p) != 0) continue;
                tried[team] = p;
                send(team + 1, taken | 1 << p, sum + values[team * MOST_PLACES + p]);
            }
            tried[team] = MOST_PLACES;
            send(team + 1, taken, sum);
        }

        long greatestTogether(State state) {
            weigh(state);
            long sum = 0;
            for (int t = 0; t < count; t++) {
                long greatest = 0;
                for (int p = 0; p < placeCount; p++) greatest = Math.max(greatest, values[t * MOST_PLACES + p]);
                sum += greatest;
            }
            return sum;
        }
    }

    /** JOBS, and in which ORDER. */
    private static final class Jobs {
        static final int MOST = 6;

        private final int[] cells = new int[MOST];
        private final int[] sorts = new int[MOST];
        private final int[] minutes = new int[MOST];
        private final int[] tried = new int[MOST];
        final int[] chosen = new int[MOST];
        int count = 0;
        long most = 0;

        void become(Jobs other) {
            System.arraycopy(other.cells, 0, cells, 0, MOST);
            System.arraycopy(other.sorts, 0, sorts, 0, MOST);
            System.arraycopy(other.minutes, 0, minutes, 0, MOST);
            count = other.count;
        }

        int empty() {
            int were = count;
            count = 0;
            return were;
        }

        int add(int cell, int sort, int lasts) {
            if (count >= MOST) return FULL;
            cells[count] = cell;
            sorts[count] = sort;
            minutes[count] = lasts;
            return count++;
        }

        void choose(State state) {
            most = -1;
            line(state, 0, 0, state.night.minute, 0L);
        }

        /** Rows are tried from the first on, so of like ones the first stays. */
        private void line(State state, int at, int taken, int minute, long sum) {
            if (at >= count) {
                if (sum > most) {
                    most = sum;
                    System.arraycopy(tried, 0, chosen, 0, MOST);
                }
                return;
            }
            for (int j = 0; j < count; j++) {
                if ((taken & 1 << j) != 0) continue;
                int ends = minute + minutes[j];
                tried[at] = j;
                line(state, at + 1, taken | 1 << j, ends, sum + state.worth(sorts[j], cells[j], minute, ends));
            }
        }
    }

    /** THE BOOK of those FOUND before. */
    private static final class Book {
        static final int MOST = 60, AGES = 4, FARTHEST = 99, ITEMS = 3;

        private final int[] ages = new int[MOST];
        private final int[] fars = new int[MOST];
        private final int[] kinds = new int[MOST];
        int count = 0;

        void become(Book other) {
            System.arraycopy(other.ages, 0, ages, 0, MOST);
            System.arraycopy(other.fars, 0, fars, 0, MOST);
            System.arraycopy(other.kinds, 0, kinds, 0, MOST);
            count = other.count;
        }

        static boolean isAsTold(long age, long far, long ofKind) {
            return age >= 0 && age < AGES && far >= 0 && far <= FARTHEST && ofKind >= 0 && ofKind < KINDS;
        }

        int empty() {
            int were = count;
            count = 0;
            return were;
        }

        int add(int age, int far, int ofKind) {
            if (count >= MOST) return FULL;
            ages[count] = age;
            fars[count] = far;
            kinds[count] = ofKind;
            return ++count;
        }

        int ofKind(int ofKind) {
            int sum = 0;
            for (int f = 0; f < count; f++) {
                if (kinds[f] == ofKind) sum++;
            }
            return sum;
        }

        private int within(int age, int far) {
            int sum = 0;
            for (int f = 0; f < count; f++) {
                if (ages[f] == age && fars[f] <= far) sum++;
            }
            return sum;
        }

        private static int quarters(int q, int many) {
            return (q * many + 3) / 4;
        }

        /** Within how FAR q quarters of an AGE were; -1: there are none. */
        int reach(int age, int q) {
            int needed = quarters(q, within(age, FARTHEST));
            for (int far = 0; far <= FARTHEST && needed > 0; far++) {
                if (within(age, far) >= needed) return far;
            }
            return -1;
        }

        int heldUp() {
            int sum = 0;
            for (int f = 0; f < count; f++) {
                int others = within(ages[f], FARTHEST) - 1;
                // FAR is no more than the SPAN of the others just if fewer of them are nearer than it needs;
                // with no others it needs none, and none are fewer.
                if (within(ages[f], fars[f] - 1) < quarters(3, others)) sum++;
            }
            return sum;
        }
    }

    /** MEASURES at the door. */
    private static final class Door {
        static final int MOST = 8;

        private final int[] keeps = new int[MOST];
        private final int[] shuts = new int[MOST];
        int count = 0;

        void become(Door other) {
            System.arraycopy(other.keeps, 0, keeps, 0, MOST);
            System.arraycopy(other.shuts, 0, shuts, 0, MOST);
            count = other.count;
        }

        int empty() {
            int were = count;
            count = 0;
            return were;
        }

        int add(int keep, int shut) {
            if (count >= MOST) return FULL;
            keeps[count] = keep;
            shuts[count] = shut;
            return count++;
        }

        boolean isSet(int set) {
            return set >= 0 && set < 1 << count;
        }

        long left(int set) {
            long product = 1;
            for (int m = 0; m < count; m++) {
                if ((set & 1 << m) != 0) product *= SIXTEENTHS - keeps[m];
            }
            return product;
        }

        long whole(int set) {
            return 1L << 4 * Integer.bitCount(set);
        }

        int shutIn(int set) {
            int sum = 0;
            for (int m = 0; m < count; m++) {
                if ((set & 1 << m) != 0) sum += shuts[m];
            }
            return sum;
        }

        /** Of sets that leave no more than a sixteenths the one that SHUTS in least; -1: none does. */
        int mildest(int a) {
            int best = -1;
            for (int set = 0; set < 1 << count; set++) {
                if (left(set) * SIXTEENTHS > whole(set) * a) continue;
                if (best < 0 || shutIn(set) < shutIn(best)) best = set;
            }
            return best;
        }
    }

    /** Which neighbours to tell. */
    private static final class Net {
        static final int MOST = 4;
        private static final int MOST_HOUSES = 10, NEIGHBOURS = 9;

        private final int[] houses = new int[MOST_HOUSES];
        private int houseCount = 0;
        // How many of the HOUSES tried stand at each CELL, so that its PARTS count once; all 0 between calls.
        private final int[] ears = new int[CELLS];
        private final int[] tried = new int[MOST];
        private int wanted = 0;
        final int[] chosen = new int[MOST];
        long most = 0;

        void choose(State state, int k) {
            findHouses(state.land);
            wanted = Math.min(k, MOST);
            most = -1;
            tell(state.night, 0, 0, 0L);
        }

        private void findHouses(Land land) {
            houseCount = 0;
            for (int cell = 0; cell < CELLS && houseCount < MOST_HOUSES; cell++) {
                if (land.kinds[cell] == HOUSE) houses[houseCount++] = cell;
            }
        }

        /** Rows are tried from the first on, so of like ones the first stays. */
        private void tell(Night night, int at, int first, long sum) {
            if (at >= wanted) {
                if (sum > most) {
                    most = sum;
                    System.arraycopy(tried, 0, chosen, 0, MOST);
                }
                return;
            }
            for (int h = first; h < houseCount; h++) {
                tried[at] = houses[h];
                long more = hear(night, houses[h]);
                tell(night, at + 1, h + 1, sum + more);
                forget(houses[h]);
            }
        }

        private long hear(Night night, int house) {
            long more = 0;
            for (int i = 0; i < NEIGHBOURS; i++) {
                int cell = Land.neighbour(house, i);
                if (cell >= 0 && ears[cell]++ == 0) more += night.together(cell);
            }
            return more;
        }

        private void forget(int house) {
            for (int i = 0; i < NEIGHBOURS; i++) {
                int cell = Land.neighbour(house, i);
                if (cell >= 0) ears[cell]--;
            }
        }
    }

    /** THE TAPE, and the LAND or LAW that it tells. */
    private static final class Tape {
        private static final int MOST = 160, BLANK = 32;
        private static final String KIND_LETTERS = "opwmahse", SETTING_LETTERS = "alrbtd";

        private final char[] bytes = new char[MOST];
        private int size = 0;

        private static int byteOf(long w, int fromRight) {
            return (int) (w >>> 8 * fromRight) & 255;
        }

        static boolean canHold(long w, int n) {
            for (int i = 0; i < n; i++) {
                if (!isIn(byteOf(w, i), BLANK, 126)) return false;
            }
            return true;
        }

        int room() {
            return MOST - size;
        }

        int append(long w, int n) {
            for (int i = n - 1; i >= 0 && size < MOST; i--) bytes[size++] = (char) byteOf(w, i);
            return size;
        }

        int readLand(Land land) {
            int fault = landFault();
            int answer = fault < 0 ? layOut(land) : FAULT - fault;
            size = 0;
            return answer;
        }

        int readLaw(Law law) {
            int fault = lawFault();
            int answer = fault < 0 ? layDown(law) : FAULT - fault;
            size = 0;
            return answer;
        }

        private int digitAt(int i) {
            return bytes[i] >= '0' && bytes[i] <= '9' ? bytes[i] - '0' : -1;
        }

        /**
         * The place on THE TAPE of the first byte that can't stand there; -1: all can. Blanks can stand anywhere,
         * but are bytes of THE TAPE: they are passed over, not taken out, so that places stay what they are.
         */
        private int landFault() {
            int row = 0;
            int width = 0;
            boolean digitFits = false;
            for (int i = 0; i < size; i++) {
                if (bytes[i] == BLANK) continue;
                int digit = digitAt(i);
                if (KIND_LETTERS.indexOf(bytes[i]) >= 0 && width < WIDTH) {
                    width++;
                    digitFits = true;
                } else if (digitFits && digit >= 1 && width + digit - 1 <= WIDTH) {
                    width += digit - 1;
                    digitFits = false;
                } else if (bytes[i] == '/' && width > 0 && row < WIDTH - 1) {
                    row++;
                    width = 0;
                    digitFits = false;
                } else {
                    return i;
                }
            }
            return width > 0 ? -1 : size;
        }

        /** A LAND without a FAULT becomes so; how many CELLS. */
        private int layOut(Land land) {
            int row = 0;
            int column = 0;
            int ofKind = 0;
            int cells = 0;
            for (int i = 0; i < size; i++) {
                if (bytes[i] == BLANK) continue;
                if (bytes[i] == '/') {
                    row++;
                    column = 0;
                    continue;
                }
                int digit = digitAt(i);
                // The letter ahead of a digit has laid the first of its CELLS.
                int more = digit < 0 ? 1 : digit - 1;
                if (digit < 0) ofKind = KIND_LETTERS.indexOf(bytes[i]);
                for (int m = 0; m < more; m++) land.lay(row * WIDTH + column++, ofKind);
                cells += more;
            }
            return cells;
        }

        /** The place on THE TAPE of the first byte that can't stand there; -1: all can. */
        private int lawFault() {
            int set = 0;
            boolean digitDue = false;
            for (int i = 0; i < size; i++) {
                if (bytes[i] == BLANK) continue;
                if (digitDue) {
                    if (digitAt(i) < 0) return i;
                } else {
                    int setting = SETTING_LETTERS.indexOf(bytes[i]);
                    if (setting < 0 || (set & 1 << setting) != 0) return i;
                    set |= 1 << setting;
                }
                digitDue = !digitDue;
            }
            return set != 0 && !digitDue ? -1 : size;
        }

        /** A LAW without a FAULT becomes so; how many SETTINGS. */
        private int layDown(Law law) {
            int setting = -1;
            int set = 0;
            for (int i = 0; i < size; i++) {
                if (bytes[i] == BLANK) continue;
                int digit = digitAt(i);
                if (digit < 0) {
                    setting = SETTING_LETTERS.indexOf(bytes[i]);
                } else if (setting >= 0) {
                    law.settings[setting] = digit;
                    set++;
                }
            }
            return set;
        }
    }

    /** SHEETS: all items stand as longs in one row, cut to their LANE when they come. */
    private static final class Sheets {
        static final int MOST = 24;
        private static final int SHEETS = 4, NOTHING = -1;

        private final long[] items = new long[SHEETS * MOST];
        private final int[] lanes = {NOTHING, NOTHING, NOTHING, NOTHING};
        private final int[] sizes = new int[SHEETS];

        static boolean isSheet(int sheet) {
            return isIn(sheet, 0, SHEETS - 1);
        }

        static boolean isLane(int lane) {
            return isIn(lane, 0, 3);
        }

        boolean isThere(int sheet) {
            return lanes[sheet] != NOTHING;
        }

        boolean areAlike(int a, int b) {
            return lanes[a] == lanes[b];
        }

        boolean holds(int sheet, int from, int n) {
            return n >= 0 && from >= 0 && from <= sizes[sheet] && n <= sizes[sheet] - from;
        }

        /** NULL, CAST or INDEX; 0: nothing is wrong. */
        int wrong(int sheet, int lane, int from, int n) {
            if (!isThere(sheet)) return NULL;
            if (lanes[sheet] != lane) return CAST;
            return holds(sheet, from, n) ? 0 : INDEX;
        }

        void renew(int sheet, int lane, int n) {
            lanes[sheet] = lane;
            sizes[sheet] = n;
            Arrays.fill(items, sheet * MOST, sheet * MOST + MOST, 0L);
        }

        int empty(int sheet) {
            lanes[sheet] = NOTHING;
            return sizes[sheet];
        }

        long at(int sheet, int i) {
            return items[sheet * MOST + i];
        }

        void put(int sheet, int i, long v) {
            items[sheet * MOST + i] = cut(lanes[sheet], v);
        }

        private static long cut(int lane, long v) {
            switch (lane) {
                case 0: return (byte) v;
                case 1: return (short) v;
                case 2: return (int) v;
                default: return v;
            }
        }

        void move(int from, int i, int to, int j, int n) {
            System.arraycopy(items, from * MOST + i, items, to * MOST + j, n);
        }
    }
}
