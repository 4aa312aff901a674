/** Promises 40 to 45: sheets. What a SHEET holds shows by finds() alone. */
final class SheetsTest {
    public static void main(String[] args) {
        finds();
        findsRefuses();
        findsIsFull();
        film();
        filmRefuses();
        sheet();
        drop();
        item();
        itemIsCut();
        copy();
        copyRefuses();
        copyOverItself();
        copyOfNothing();
        Check.close();
    }

    /** Whether items i, i + 1, i + 2 are as told, by what THE BOOK becomes of them. */
    private static void holds(String what, SheGoesOut x, int[] place, int age, int far, int kind) {
        x.clear();
        Check.due(what + " finds", x.finds(place[0], place[1], place[2], 1), 1);
        Check.due(what + " far", x.span(age, 4), far);
        Check.due(what + " kind", x.share(kind, 0), 2);
    }

    private static int[] at(int sheet, int lane, int i) {
        int[] place = {sheet, lane, i};
        return place;
    }

    private static void put(SheGoesOut x, int sheet, int lane, int i, int... items) {
        for (int k = 0; k < items.length; k++) x.item(sheet, lane, i + k, items[k]);
    }

    private static void finds() {
        for (int lane = 0; lane < 4; lane++) {
            SheGoesOut x = new SheGoesOut();
            x.sheet(2, lane, 24);
            put(x, 2, lane, 0, 0, 10, 1, 1, 20, 2, 2, 30, 3, 3, 99, 7, 0, 0, 0, 0, 5, 0, 1, 6, 1, 3, 7, 4);
            Check.due("P40 one", x.finds(2, lane, 9, 1), 1);
            Check.due("P40 its AGE and FAR", x.span(3, 4), 99);
            Check.due("P40 its KIND", x.share(7, 0), 2);
            x.clear();
            Check.due("P40 eight", x.finds(2, lane, 0, 8), 8);
            Check.due("P40", x.count(4), 8);
            Check.due("P40", x.span(0, 4), 10);
            Check.due("P40", x.span(1, 4), 20);
            Check.due("P40", x.span(2, 4), 30);
            Check.due("P40", x.span(3, 4), 99);
            Check.due("P40", x.span(3, 1), 7);
            Check.due("P40 more", x.finds(2, lane, 3, 2), 10);
        }
    }

    private static void findsRefuses() {
        SheGoesOut x = new SheGoesOut();
        Check.due("P40 sheet", x.finds(-1, 0, 0, 1), -1);
        Check.due("P40 sheet", x.finds(4, 0, 0, 1), -1);
        Check.due("P40 lane", x.finds(0, -1, 0, 1), -1);
        Check.due("P40 lane", x.finds(0, 4, 0, 1), -1);
        Check.due("P40 n", x.finds(0, 0, 0, 0), -1);
        Check.due("P40 n", x.finds(0, 0, 0, 9), -1);
        Check.due("P40 NULL", x.finds(0, 0, -1, 1), -11);
        x.sheet(0, 1, 6);
        Check.due("P40 CAST ahead of INDEX", x.finds(0, 0, -1, 1), -12);
        Check.due("P40 INDEX", x.finds(0, 1, -1, 1), -13);
        Check.due("P40 INDEX", x.finds(0, 1, 4, 1), -13);
        Check.due("P40 INDEX", x.finds(0, 1, 0, 3), -13);
        Check.due("P40 INDEX", x.finds(0, 1, Integer.MAX_VALUE, 1), -13);
        Check.due("P40 INDEX", x.finds(0, 1, Integer.MIN_VALUE, 8), -13);
        Check.due("P40 just", x.finds(0, 1, 3, 1), 1);
        int[][] wrong = {{-1, 0, 0}, {4, 0, 0}, {0, -1, 0}, {0, 100, 0}, {0, 0, -1}, {0, 0, 8}};
        for (int[] items : wrong) {
            put(x, 0, 1, 3, items);
            Check.due("P40 NOT", x.finds(0, 1, 0, 2), -2);
            Check.due("P40 none comes", x.count(4), 1);
            Check.due("P40 the one ahead is well", x.finds(0, 1, 0, 1), 2);
            x.clear();
            x.found(0, 0, 0);
        }
        x.sheet(1, 3, 3);
        x.item(1, 3, 0, 1L << 32);
        Check.due("P40 NOT: a long", x.finds(1, 3, 0, 1), -2);
    }

    private static void findsIsFull() {
        SheGoesOut x = new SheGoesOut();
        x.sheet(0, 0, 24);
        for (int i = 1; i <= 58; i++) x.found(0, 0, 0);
        Check.due("P40 no room for three", x.finds(0, 0, 0, 3), -3);
        Check.due("P40 none comes", x.count(4), 58);
        x.item(0, 0, 0, 4);
        Check.due("P40 NOT ahead of FULL", x.finds(0, 0, 0, 3), -2);
        x.item(0, 0, 0, 3);
        Check.due("P40 room for two", x.finds(0, 0, 0, 2), 60);
        Check.due("P40 full", x.finds(0, 0, 0, 1), -3);
    }

    private static void film() {
        SheGoesOut x = new SheGoesOut();
        x.start(15, 1);
        x.sits(0, 2);
        x.night(1);
        // In row 1: CELL 14 by 1, 15 by 2, 16 by 8 of 16; 62, 125, 500 thousandths.
        x.sheet(0, 2, 14);
        Check.due("P41", x.film(1, 0, 2, 2), 12);
        x.item(0, 2, 3, 3);
        holds("P41 14", x, at(0, 2, 3), 3, 62, 0 + thrown(x, 0, 2, 5));
        x.item(0, 2, 4, 1);
        x.item(0, 2, 7, 0);
        x.item(0, 2, 5, 2);
        Check.due("P41 16 is 500", x.finds(0, 2, 4, 1), -2);
        x.item(0, 2, 6, 0);
        Check.due("P41 16 alone was not as told", x.finds(0, 2, 4, 1), 2);
        x.sheet(1, 0, 12);
        Check.due("P41 lowest bits", x.film(1, 1, 0, 0), 12);
        // 500 less 512 is -12: no FAR.
        Check.due("P41 -12", x.finds(1, 0, 3, 1), -2);
        x.search(1, 16);
        // Now CELL 16 has 2 of 10: 200, which is -56; CELL 14 by 1 of 10: 100, CELL 15 by 2: 200.
        Check.due("P41 by what is left", x.film(0, 1, 0, 0), 12);
        // CELL 3 by 3 of 10 is 300: 300 less 256.
        x.clear();
        Check.due("P41 44", x.finds(1, 0, 2, 1), 1);
        Check.due("P41 44", x.span(0, 4), 44);
    }

    /** Makes item i a 0; 0. */
    private static int thrown(SheGoesOut x, int sheet, int lane, int i) {
        x.item(sheet, lane, i, 0);
        return 0;
    }

    private static void filmRefuses() {
        SheGoesOut x = new SheGoesOut();
        Check.due("P41 row", x.film(-1, 0, 0, 0), -1);
        Check.due("P41 row", x.film(12, 0, 0, 0), -1);
        Check.due("P41 sheet", x.film(0, 4, 0, 0), -1);
        Check.due("P41 sheet", x.film(0, -1, 0, 0), -1);
        Check.due("P41 lane", x.film(0, 0, 4, 0), -1);
        Check.due("P41 lane", x.film(0, 0, -1, 0), -1);
        Check.due("P41 NULL", x.film(0, 0, 0, 0), -11);
        x.sheet(0, 1, 12);
        Check.due("P41 CAST", x.film(0, 0, 0, 1), -12);
        Check.due("P41 INDEX ahead of NONE", x.film(0, 0, 1, 1), -13);
        Check.due("P41 INDEX", x.film(0, 0, 1, -1), -13);
        Check.due("P41 INDEX", x.film(0, 0, 1, Integer.MAX_VALUE), -13);
        Check.due("P41 NONE", x.film(0, 0, 1, 0), -4);
        x.start(0, 0);
        x.item(0, 1, 0, 7);
        Check.due("P41 now", x.film(11, 0, 1, 0), 12);
        Check.due("P41 all 0", x.finds(0, 1, 0, 4), 4);
        x.sheet(0, 1, 11);
        Check.due("P41 too short", x.film(0, 0, 1, 0), -13);
    }

    private static void sheet() {
        SheGoesOut x = new SheGoesOut();
        Check.due("P42 sheet", x.sheet(-1, 0, 1), -1);
        Check.due("P42 sheet", x.sheet(4, 0, 1), -1);
        Check.due("P42 lane", x.sheet(0, -1, 1), -1);
        Check.due("P42 lane", x.sheet(0, 4, 1), -1);
        Check.due("P42 25", x.sheet(0, 0, 25), -1);
        Check.due("P42 BAD first", x.sheet(4, 0, -1), -1);
        Check.due("P42 SIZE", x.sheet(0, 0, -1), -14);
        Check.due("P42 SIZE", x.sheet(0, 0, Integer.MIN_VALUE), -14);
        Check.due("P42 nothing yet", x.drop(0), -11);
        for (int sheet = 0; sheet < 4; sheet++) Check.due("P42", x.sheet(sheet, 3 - sheet, 24 - sheet), 24 - sheet);
        for (int sheet = 0; sheet < 4; sheet++) Check.due("P42", x.drop(sheet), 24 - sheet);
        Check.due("P42 no items", x.sheet(0, 0, 0), 0);
        Check.due("P42 is there", x.drop(0), 0);
        x.sheet(1, 0, 24);
        for (int i = 0; i < 24; i++) x.item(1, 0, i, 9);
        x.sheet(1, 0, -5);
        Check.due("P42 the row stays", x.finds(1, 0, 0, 8), -2);
        x.sheet(1, 0, 24);
        Check.due("P42 a new row", x.finds(1, 0, 0, 8), 8);
        x.sheet(1, 2, 3);
        Check.due("P42 another lane", x.item(1, 0, 0, 0), -12);
        Check.due("P42 another length", x.item(1, 2, 3, 0), -13);
    }

    private static void drop() {
        SheGoesOut x = new SheGoesOut();
        Check.due("P43", x.drop(-1), -1);
        Check.due("P43", x.drop(4), -1);
        Check.due("P43 NULL", x.drop(3), -11);
        x.sheet(3, 1, 17);
        Check.due("P43", x.drop(3), 17);
        Check.due("P43 NULL", x.drop(3), -11);
        Check.due("P43 nothing", x.item(3, 1, 0, 0), -11);
    }

    private static void item() {
        SheGoesOut x = new SheGoesOut();
        Check.due("P44 sheet", x.item(-1, 0, 0, 0), -1);
        Check.due("P44 sheet", x.item(4, 0, 0, 0), -1);
        Check.due("P44 lane", x.item(0, -1, 0, 0), -1);
        Check.due("P44 lane", x.item(0, 4, 0, 0), -1);
        Check.due("P44 NULL", x.item(0, 0, -1, 0), -11);
        x.sheet(0, 0, 3);
        Check.due("P44 CAST", x.item(0, 1, -1, 0), -12);
        Check.due("P44 INDEX", x.item(0, 0, -1, 0), -13);
        Check.due("P44 INDEX", x.item(0, 0, 3, 0), -13);
        Check.due("P44 INDEX", x.item(0, 0, Integer.MAX_VALUE, 0), -13);
        Check.due("P44 INDEX", x.item(0, 0, Integer.MIN_VALUE, 0), -13);
        Check.due("P44", x.item(0, 0, 0, 2), 1);
        Check.due("P44", x.item(0, 0, 1, 77), 1);
        Check.due("P44", x.item(0, 0, 2, 5), 1);
        holds("P44", x, at(0, 0, 0), 2, 77, 5);
        x.sheet(1, 3, 0);
        Check.due("P44 no items", x.item(1, 3, 0, 0), -13);
    }

    private static void itemIsCut() {
        int[] bits = {8, 16, 32};
        for (int lane = 0; lane < 4; lane++) {
            SheGoesOut x = new SheGoesOut();
            x.sheet(0, lane, 3);
            x.item(0, lane, 0, 1);
            x.item(0, lane, 1, 65);
            x.item(0, lane, 2, 2);
            holds("P44 lane " + lane, x, at(0, lane, 0), 1, 65, 2);
            if (lane < 3) {
                x.item(0, lane, 1, (5L << bits[lane]) + 64);
                holds("P44 lowest bits " + lane, x, at(0, lane, 0), 1, 64, 2);
                x.item(0, lane, 1, (1L << bits[lane]) - 1);
                Check.due("P44 a sign " + lane, x.finds(0, lane, 0, 1), -2);
                x.item(0, lane, 1, 1L << (bits[lane] - 1));
                Check.due("P44 the least " + lane, x.finds(0, lane, 0, 1), -2);
            }
            x.item(0, lane, 1, Long.MIN_VALUE);
            Check.due("P44 the lowest bits alone " + lane, x.finds(0, lane, 0, 1), lane < 3 ? 2 : -2);
        }
    }

    private static void copy() {
        SheGoesOut x = new SheGoesOut();
        x.sheet(0, 2, 6);
        x.sheet(3, 2, 9);
        put(x, 0, 2, 0, 3, 2, 88, 7, 1, 1);
        Check.due("P45", x.copy(0, 1, 3, 4, 3), 3);
        holds("P45 came", x, at(3, 2, 4), 2, 88, 7);
        holds("P45 none ahead", x, at(3, 2, 1), 0, 0, 0);
        Check.due("P45 the source stays", x.finds(0, 2, 1, 1), 2);
        Check.due("P45 to the end", x.copy(0, 0, 3, 3, 6), 6);
        x.sheet(1, 2, 3);
        Check.due("P45 back", x.copy(3, 4, 1, 0, 3), 3);
        holds("P45 back", x, at(1, 2, 0), 2, 88, 7);
    }

    private static void copyRefuses() {
        SheGoesOut x = new SheGoesOut();
        Check.due("P45", x.copy(-1, 0, 0, 0, 0), -1);
        Check.due("P45", x.copy(4, 0, 0, 0, 0), -1);
        Check.due("P45", x.copy(0, 0, -1, 0, 0), -1);
        Check.due("P45", x.copy(0, 0, 4, 0, 0), -1);
        Check.due("P45 NULL", x.copy(0, -1, 1, -1, -1), -11);
        x.sheet(0, 0, 5);
        Check.due("P45 NULL to", x.copy(0, 0, 1, 0, 0), -11);
        Check.due("P45 NULL from", x.copy(1, 0, 0, 0, 0), -11);
        x.sheet(1, 1, 5);
        Check.due("P45 CAST ahead of INDEX", x.copy(0, -1, 1, 0, 0), -12);
        Check.due("P45 CAST of nothing", x.copy(0, 0, 1, 0, 0), -12);
        x.sheet(1, 0, 7);
        Check.due("P45 n", x.copy(0, 0, 1, 0, -1), -13);
        Check.due("P45 n", x.copy(0, 0, 1, 0, Integer.MIN_VALUE), -13);
        Check.due("P45 n", x.copy(0, 0, 1, 0, Integer.MAX_VALUE), -13);
        Check.due("P45 i", x.copy(0, -1, 1, 0, 1), -13);
        Check.due("P45 j", x.copy(0, 0, 1, -1, 1), -13);
        Check.due("P45 i + n", x.copy(0, 1, 1, 0, 5), -13);
        Check.due("P45 j + n", x.copy(0, 0, 1, 3, 5), -13);
        Check.due("P45 i + n wraps", x.copy(0, Integer.MAX_VALUE, 1, 0, 1), -13);
        Check.due("P45 j + n wraps", x.copy(0, 0, 1, Integer.MAX_VALUE, 1), -13);
        Check.due("P45 just", x.copy(0, 0, 1, 2, 5), 5);
    }

    private static void copyOverItself() {
        SheGoesOut x = new SheGoesOut();
        x.sheet(0, 0, 9);
        put(x, 0, 0, 0, 1, 42, 3, 2, 55, 6, 0, 0, 0);
        Check.due("P45 up", x.copy(0, 0, 0, 1, 8), 8);
        // 1 1 42 3 2 55 6 0 0.
        holds("P45 up", x, at(0, 0, 1), 1, 42, 3);
        holds("P45 up", x, at(0, 0, 4), 2, 55, 6);
        Check.due("P45 down", x.copy(0, 1, 0, 0, 8), 8);
        holds("P45 down", x, at(0, 0, 0), 1, 42, 3);
        holds("P45 down", x, at(0, 0, 3), 2, 55, 6);
    }

    private static void copyOfNothing() {
        SheGoesOut x = new SheGoesOut();
        x.sheet(0, 0, 5);
        x.sheet(1, 0, 3);
        Check.due("P45 at the end", x.copy(0, 5, 1, 3, 0), 0);
        Check.due("P45 above i", x.copy(0, 6, 1, 3, 0), -13);
        Check.due("P45 above j", x.copy(0, 5, 1, 4, 0), -13);
        Check.due("P45 below i", x.copy(0, -1, 1, 3, 0), -13);
        Check.due("P45 below j", x.copy(0, 5, 1, -1, 0), -13);
        x.sheet(2, 0, 0);
        Check.due("P45 of no items", x.copy(2, 0, 2, 0, 0), 0);
        Check.due("P45 of no items", x.copy(2, 0, 2, 0, 1), -13);
    }
}
