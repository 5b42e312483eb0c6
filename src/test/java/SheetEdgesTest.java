/** The edges of promises 34 to 39: sheets that are missing, other lanes, items before the first and behind the last. */
public final class SheetEdgesTest extends Checks {
    /** Numbers whose lowest bits are those of a note in one lane and not in another. */
    static final int[] WIDE = {256, 65536, 256 + 9, 65536 + 9, 1 << 24, LEAST, LEAST + 9};

    // ---- promise 34

    static void hands() {
        for (Place place : new Place[] {NOBODY, BUSY, FULL_TOWN}) {
            outside(34, "sheet", place, 0, 3, (x, v) -> x.hands(v, 0, 0, 1, 1, 0), BAD);
            outside(34, "lane", place, 0, 2, (x, v) -> x.hands(0, v, 0, 1, 1, 0), BAD);
            outside(34, "m", place, 1, 6, (x, v) -> x.hands(0, 0, 0, v, 1, 0), BAD);
            outside(34, "n", place, 1, 6, (x, v) -> x.hands(0, 0, 0, 1, v, 0), BAD);
            outside(34, "n, whose", place, 1, 6, (x, v) -> x.hands(0, 0, 0, 1, v, -1), BAD);
            for (int n = 1; n <= 6; n++) {
                int notes = n;
                outside(34, "k of " + n, place, -1, n - 1, (x, v) -> x.hands(0, 0, 0, 1, notes, v), BAD);
            }
        }
        keeps(34, "BAD ahead of NULL", BUSY, x -> x.hands(3, 0, 0, 0, 1, 0), BAD);
        keeps(34, "BAD ahead of CAST", BUSY, x -> x.hands(0, 1, 0, 1, 7, 0), BAD);
        keeps(34, "BAD ahead of INDEX", BUSY, x -> x.hands(0, 0, -1, 7, 1, 0), BAD);
        keeps(34, "BAD ahead of NONE", NOBODY, x -> x.hands(4, 0, 0, 1, 1, -1), BAD);
        machineFindsInHands();
        handsOfAllThereIs();
        handsNotNotes();
        handsWithoutSellers();
    }

    static void machineFindsInHands() {
        for (int lane = 0; lane < 3; lane++) {
            int l = lane;
            keeps(34, "a missing sheet", BUSY, x -> x.hands(3, l, 0, 1, 1, 0), NULL);
            keeps(34, "a missing sheet, i below 0", BUSY, x -> x.hands(3, l, LEAST, 1, 1, -1), NULL);
            keeps(34, "another LANE", BUSY, x -> x.hands(l, (l + 1) % 3, 0, 1, 1, 0), CAST);
            keeps(34, "another LANE, i too great", BUSY, x -> x.hands(l, (l + 2) % 3, MOST, 6, 6, 5), CAST);
            int count = 3 + (l == 1 ? 1 : l == 2 ? -1 : 0);
            outside(34, "i for one item", BUSY, 0, count - 1, (x, v) -> x.hands(l, l, v, 1, 1, 0), INDEX);
            outside(34, "i for two", BUSY, 0, count - 2, (x, v) -> x.hands(l, l, v, 1, 2, 1), INDEX);
            outside(34, "i for two rows", BUSY, 0, count - 2, (x, v) -> x.hands(l, l, v, 2, 1, 0), INDEX);
            keeps(34, "more rows than there are", BUSY, x -> x.hands(l, l, 0, 6, 1, 0), INDEX);
        }
        for (int items : new int[] {1, 2, 6, 35, 36}) {
            int i = MOST - items + 1;
            keeps(34, "i past an int's end", BUSY, x -> x.hands(0, 0, i, 6, 6, 0), INDEX);
            keeps(34, "i past an int's end", FULL_TOWN, x -> x.hands(3, 0, i, 6, 6, -1), INDEX);
        }
        for (int i : new int[] {-36, -6, -1, LEAST, LEAST + 36}) {
            keeps(34, "i below 0", FULL_TOWN, x -> x.hands(3, 0, i, 6, 6, 0), INDEX);
            keeps(34, "i below 0", FULL_TOWN, x -> x.hands(3, 0, i, 1, 1, 0), INDEX);
        }
        keeps(34, "a row of 0 items", SheetEdgesTest::withEmptyRow, x -> x.hands(0, 1, 0, 1, 1, 0), INDEX);
        keeps(34, "INDEX ahead of NOT", SheetEdgesTest::notNotes, x -> x.hands(0, 2, 0, 5, 1, 0), INDEX);
    }

    static StreetCries withEmptyRow() {
        StreetCries x = new StreetCries();
        x.sheet(0, 1, 0);
        return x;
    }

    /** -1, 10, 3, 9 */
    static StreetCries notNotes() {
        StreetCries x = new StreetCries();
        fill(x, 0, 2, -1, 10, 3, 9);
        return x;
    }

    /** The full town's sheet: 9 8 7 6 5 4 3 2 1 0 1 2 3 4 5 6 7 8 9 0 1 2 3 4. */
    static void handsOfAllThereIs() {
        keeps(34, "4 by 6, the first", FULL_TOWN, x -> x.hands(3, 0, 0, 4, 6, 0), 3);
        keeps(34, "4 by 6, the last", FULL_TOWN, x -> x.hands(3, 0, 0, 4, 6, 5), 4);
        keeps(34, "6 by 4, the first", FULL_TOWN, x -> x.hands(3, 0, 0, 6, 4, 0), 1);
        keeps(34, "6 by 4, the last", FULL_TOWN, x -> x.hands(3, 0, 0, 6, 4, 3), 2);
        keeps(34, "4 by 6, one too far", FULL_TOWN, x -> x.hands(3, 0, 1, 4, 6, 0), INDEX);
        keeps(34, "5 by 5", FULL_TOWN, x -> x.hands(3, 0, 0, 5, 5, 0), INDEX);
        keeps(34, "6 by 6", FULL_TOWN, x -> x.hands(3, 0, 0, 6, 6, 0), INDEX);
        keeps(34, "6 by 3, as far as it goes", FULL_TOWN, x -> x.hands(3, 0, 6, 6, 3, 2), 1);
        keeps(34, "6 by 3, one too far", FULL_TOWN, x -> x.hands(3, 0, 7, 6, 3, 2), INDEX);
        keeps(34, "the last item", FULL_TOWN, x -> x.hands(3, 0, 23, 1, 1, 0), 4);
        keeps(34, "the first item", FULL_TOWN, x -> x.hands(3, 0, 0, 1, 1, 0), 9);
        keeps(34, "whose, of six", FULL_TOWN, x -> x.hands(3, 0, 10, 1, 6, -1), 5);
        StreetCries x = new StreetCries();
        fill(x, 0, 1, 9, 0, 9, 0, 5, 5);
        due(34, "most have", x.hands(0, 1, 0, 6, 1, 0), 0);
        due(34, "of like ones the least", x.hands(0, 1, 4, 2, 1, 0), 5);
        due(34, "9 and 0", x.hands(0, 1, 0, 2, 1, 0), 0);
    }

    static void handsNotNotes() {
        for (int i = 0; i < 2; i++) {
            int at = i;
            keeps(34, "item " + i, SheetEdgesTest::notNotes, x -> x.hands(0, 2, at, 1, 1, 0), NOT);
            keeps(34, "item " + i + ", ahead of NONE", SheetEdgesTest::notNotes, x -> x.hands(0, 2, at, 1, 1, -1), NOT);
            keeps(34, "one of two", SheetEdgesTest::notNotes, x -> x.hands(0, 2, 1, 1, 2, at), NOT);
            keeps(34, "one of two rows", SheetEdgesTest::notNotes, x -> x.hands(0, 2, 1, 2, 1, 0), NOT);
        }
        keeps(34, "behind them", SheetEdgesTest::notNotes, x -> x.hands(0, 2, 2, 2, 1, 0), 3);
        keeps(34, "what is not taken", SheetEdgesTest::notNotes, x -> x.hands(0, 2, 3, 1, 1, 0), 9);
        for (int v : new int[] {10, -1, -9, 127, -128, 128, 255, 32767, -32768, MOST, LEAST, MOST - 1}) {
            StreetCries x = new StreetCries();
            fill(x, 0, 2, 5, 5, 5, v);
            due(34, "the last of all is " + v, x.hands(0, 2, 0, 2, 2, 0), NOT);
            due(34, "whose, the last is " + v, x.hands(0, 2, 0, 4, 1, -1), NOT);
        }
    }

    static void handsWithoutSellers() {
        StreetCries x = new StreetCries();
        fill(x, 0, 0, 0, 9);
        due(34, "whose, without sellers", x.hands(0, 0, 0, 1, 2, -1), NONE);
        due(34, "a note, without sellers", x.hands(0, 0, 0, 1, 2, 1), 9);
        x.seller(0, 1, 1);
        due(34, "whose, with one", x.hands(0, 0, 0, 1, 2, -1), 0);
        x.seller(0, 1, 1);
        due(34, "whose, of like ones the least", x.hands(0, 0, 0, 1, 2, -1), 0);
        come(x, 0, 1, 1, "0", "09");
        due(34, "whose, the last of three", x.hands(0, 0, 0, 1, 2, -1), 2);
    }

    // ---- promise 35

    static void came() {
        for (Place place : new Place[] {NOBODY, BUSY, FULL_TOWN}) {
            outside(35, "sheet", place, 0, 3, (x, v) -> x.came(v, 0, 0, 1, 1, 0), BAD);
            outside(35, "lane", place, 0, 2, (x, v) -> x.came(0, v, 0, 1, 1, 0), BAD);
            outside(35, "m", place, 1, 5, (x, v) -> x.came(0, 0, 0, v, 1, 0), BAD);
            outside(35, "n", place, 1, 6, (x, v) -> x.came(0, 0, 0, 1, v, 0), BAD);
            for (int m = 1; m <= 5; m++) {
                int rows = m;
                outside(35, "k of " + m, place, 0, m - 1, (x, v) -> x.came(0, 0, 0, rows, 1, v), BAD);
            }
        }
        keeps(35, "BAD ahead of NULL", BUSY, x -> x.came(3, 0, 0, 6, 1, 0), BAD);
        keeps(35, "BAD ahead of CAST", BUSY, x -> x.came(0, 1, 0, 1, 0, 0), BAD);
        keeps(35, "BAD ahead of INDEX", BUSY, x -> x.came(0, 0, -1, 1, 1, 1), BAD);
        machineFindsInYears();
        yearsOfAllThereIs();
        years();
        notesOfYears();
    }

    static void machineFindsInYears() {
        for (int lane = 0; lane < 3; lane++) {
            int l = lane;
            keeps(35, "a missing sheet", BUSY, x -> x.came(3, l, 0, 1, 1, 0), NULL);
            keeps(35, "a missing sheet, i below 0", BUSY, x -> x.came(3, l, LEAST, 1, 1, 0), NULL);
            keeps(35, "another LANE", BUSY, x -> x.came(l, (l + 1) % 3, 0, 1, 1, 0), CAST);
            keeps(35, "another LANE, i too great", BUSY, x -> x.came(l, (l + 2) % 3, MOST, 5, 6, 4), CAST);
            int count = 3 + (l == 1 ? 1 : l == 2 ? -1 : 0);
            outside(35, "i for a year and a note", BUSY, 0, count - 2, (x, v) -> x.came(l, l, v, 1, 1, 0), INDEX);
            keeps(35, "more rows than there are", BUSY, x -> x.came(l, l, 0, 5, 1, 0), INDEX);
        }
        for (int items : new int[] {1, 2, 7, 34, 35}) {
            int i = MOST - items + 1;
            keeps(35, "i past an int's end", BUSY, x -> x.came(0, 0, i, 5, 6, 0), INDEX);
            keeps(35, "i past an int's end", FULL_TOWN, x -> x.came(3, 0, i, 1, 1, 0), INDEX);
        }
        for (int i : new int[] {-35, -2, -1, LEAST, LEAST + 35}) {
            keeps(35, "i below 0", FULL_TOWN, x -> x.came(3, 0, i, 5, 6, 0), INDEX);
            keeps(35, "i below 0", FULL_TOWN, x -> x.came(3, 0, i, 1, 1, 0), INDEX);
        }
        keeps(35, "a row of 0 items", SheetEdgesTest::withEmptyRow, x -> x.came(0, 1, 0, 1, 1, 0), INDEX);
        keeps(35, "INDEX ahead of NOT", SheetEdgesTest::notNotes, x -> x.came(0, 2, 0, 3, 1, 0), INDEX);
    }

    /** The full town's sheet: 9 8 7 6 5 4 3 2 1 0 1 2 3 4 5 6 7 8 9 0 1 2 3 4. */
    static void yearsOfAllThereIs() {
        int[] ofFour = {3, 2, NONE, 1};
        int[] ofFive = {2, NONE, NONE, 1};
        for (int k = 0; k < 4; k++) {
            int row = k;
            keeps(35, "4 rows of a year and 4, row " + k, FULL_TOWN, x -> x.came(3, 0, 0, 4, 4, row), ofFour[row]);
            keeps(35, "4 rows of a year and 5, row " + k, FULL_TOWN, x -> x.came(3, 0, 0, 4, 5, row), ofFive[row]);
        }
        keeps(35, "4 rows of a year and 5, one too far", FULL_TOWN, x -> x.came(3, 0, 1, 4, 5, 0), INDEX);
        keeps(35, "5 rows of a year and 4", FULL_TOWN, x -> x.came(3, 0, 0, 5, 4, 0), INDEX);
        keeps(35, "5 rows of a year and 6", FULL_TOWN, x -> x.came(3, 0, 0, 5, 6, 0), INDEX);
        keeps(35, "5 rows of a year and 1, as far as it goes", FULL_TOWN, x -> x.came(3, 0, 14, 5, 1, 4), 3);
        keeps(35, "5 rows of a year and 1, one too far", FULL_TOWN, x -> x.came(3, 0, 15, 5, 1, 4), INDEX);
        keeps(35, "the last two items", FULL_TOWN, x -> x.came(3, 0, 22, 1, 1, 0), NONE);
        keeps(35, "one too far", FULL_TOWN, x -> x.came(3, 0, 23, 1, 1, 0), INDEX);
    }

    static void years() {
        int[][] ends = {{-128, 127}, {-32768, 32767}, {LEAST, MOST}};
        for (int lane = 0; lane < 3; lane++) {
            int least = ends[lane][0];
            int most = ends[lane][1];
            StreetCries x = new StreetCries();
            fill(x, 0, lane, most, 5, least, 9, 0, 9, -1, 8, most, 5);
            int[] due = {3, NONE, 1, 1, 3};
            for (int k = 0; k < 5; k++) {
                due(35, "years from end to end, lane " + lane + ", row " + k, x.came(0, lane, 0, 5, 1, k), due[k]);
            }
            due(35, "one row alone", x.came(0, lane, 0, 1, 1, 0), NONE);
            fill(x, 1, lane, most, 1, most, 1, least, 2, least, 2);
            due(35, "a like year is not earlier", x.came(1, lane, 0, 2, 1, 1), NONE);
            due(35, "a like year is not earlier", x.came(1, lane, 4, 2, 1, 0), NONE);
            due(35, "of like ones the first", x.came(1, lane, 0, 4, 1, 1), 2);
            due(35, "a later one is not earlier", x.came(1, lane, 0, 4, 1, 3), NONE);
        }
        StreetCries x = new StreetCries();
        fill(x, 0, 0, 128, 1, 127, 1);
        due(35, "a byte of 128 is below 0", x.came(0, 0, 0, 2, 1, 1), 0);
        fill(x, 1, 1, 32768, 1, 32767, 1);
        due(35, "a short of 32768 is below 0", x.came(1, 1, 0, 2, 1, 1), 0);
        fill(x, 2, 2, 2000, 0, 2001, 9);
        due(35, "however far apart", x.came(2, 2, 0, 2, 1, 1), 0);
        fill(x, 3, 2, 1, 5, 2, 9, 2, 6, 3, 5);
        due(35, "the first is nearest", x.came(3, 2, 0, 4, 1, 3), 0);
    }

    static void notesOfYears() {
        for (int v : new int[] {10, -1, 127, -128, 32767, MOST, LEAST}) {
            StreetCries x = new StreetCries();
            fill(x, 0, 2, v, 0, 9, v, 1, v);
            due(35, "years of " + v, x.came(0, 2, 0, 1, 2, 0), NONE);
            due(35, "the last of all is " + v, x.came(0, 2, 0, 2, 2, 0), NOT);
            due(35, "NOT ahead of NONE", x.came(0, 2, 3, 1, 2, 0), NOT);
            due(35, "a year where a note is due", x.came(0, 2, 1, 1, 2, 0), NOT);
            due(35, "in a row that is not asked for", x.came(0, 2, 0, 2, 2, 1), NOT);
        }
    }

    // ---- promise 36

    static void sheet() {
        for (Place place : new Place[] {NOBODY, BUSY, FULL_TOWN}) {
            outside(36, "sheet", place, 0, 3, (x, v) -> x.sheet(v, 0, 3), BAD);
            outside(36, "lane", place, 0, 2, (x, v) -> x.sheet(0, v, 3), BAD);
            outside(36, "sheet, ahead of SIZE", place, 0, 3, (x, v) -> x.sheet(v, 0, -1), BAD);
            outside(36, "lane, ahead of SIZE", place, 0, 2, (x, v) -> x.sheet(3, v, LEAST), BAD);
            for (int n : new int[] {25, 26, 256, 280, 65536, MOST - 1, MOST}) {
                keeps(36, "n " + n, place, x -> x.sheet(3, 0, n), BAD);
            }
            for (int n : new int[] {-1, -2, -24, -256, -232, -65536, LEAST, LEAST + 24}) {
                keeps(36, "n " + n, place, x -> x.sheet(0, 2, n), SIZE);
            }
        }
        for (int lane = 0; lane < 3; lane++) {
            StreetCries x = BUSY.make();
            for (int sheet = 0; sheet < 4; sheet++) {
                due(36, "no items", x.sheet(sheet, lane, 0), 0);
                due(36, "it is there", x.item(sheet, lane, 0, 1), INDEX);
                due(36, "all there is room for", x.sheet(sheet, lane, 24), 24);
                due(36, "the last item is 0", x.hands(sheet, lane, 23, 1, 1, 0), 0);
                due(36, "the last item", x.item(sheet, lane, 23, 7), 1);
                due(36, "no more", x.item(sheet, lane, 24, 7), INDEX);
                due(36, "a new row", x.sheet(sheet, lane, 24), 24);
                due(36, "a new row's items are 0", x.hands(sheet, lane, 23, 1, 1, 0), 0);
                due(36, "another LANE", x.sheet(sheet, (lane + 1) % 3, 2), 2);
                due(36, "no more of this one", x.item(sheet, lane, 0, 1), CAST);
                due(36, "shorter", x.item(sheet, (lane + 1) % 3, 2, 1), INDEX);
            }
        }
        StreetCries x = BUSY.make();
        x.sheet(1, 1, 4);
        due(36, "what was there is gone", x.hands(1, 1, 0, 4, 1, 0), 0);
        due(36, "another sheet stays", x.hands(0, 0, 0, 1, 3, 2), 3);
    }

    // ---- promise 37

    static void drop() {
        for (Place place : new Place[] {NOBODY, BUSY, FULL_TOWN}) {
            outside(37, "sheet", place, 0, 3, (x, v) -> x.drop(v), BAD);
        }
        for (int sheet = 0; sheet < 4; sheet++) {
            int s = sheet;
            keeps(37, "nothing at first", NOBODY, x -> x.drop(s), NULL);
            keeps(37, "nothing", s == 3 ? BUSY : FULL_TOWN, x -> x.drop(s), NULL);
        }
        StreetCries x = BUSY.make();
        int[] had = {3, 4, 2, NULL};
        for (int sheet = 0; sheet < 4; sheet++) {
            due(37, "how many it had", x.drop(sheet), had[sheet]);
            due(37, "nothing more", x.drop(sheet), NULL);
            due(37, "no item", x.item(sheet, 0, 0, 1), NULL);
            due(37, "no hands", x.hands(sheet, 0, 0, 1, 1, 0), NULL);
            due(37, "no years", x.came(sheet, 0, 0, 1, 1, 0), NULL);
            due(37, "no copy", x.copy(sheet, 0, sheet, 0, 0), NULL);
            x.sheet(sheet, 0, 0);
            due(37, "no items are not nothing", x.drop(sheet), 0);
            x.sheet(sheet, 2, 24);
            due(37, "all there is room for", x.drop(sheet), 24);
            x.sheet(sheet, 1, 1);
            due(37, "one", x.drop(sheet), 1);
        }
    }

    // ---- promise 38

    static void item() {
        for (Place place : new Place[] {NOBODY, BUSY, FULL_TOWN}) {
            outside(38, "sheet", place, 0, 3, (x, v) -> x.item(v, 0, 0, 3), BAD);
            outside(38, "lane", place, 0, 2, (x, v) -> x.item(0, v, 0, 3), BAD);
            outside(38, "lane, i below 0", place, 0, 2, (x, v) -> x.item(3, v, -1, 3), BAD);
        }
        for (int lane = 0; lane < 3; lane++) {
            int l = lane;
            keeps(38, "a missing sheet", BUSY, x -> x.item(3, l, 0, 3), NULL);
            keeps(38, "a missing sheet, i below 0", BUSY, x -> x.item(3, l, -1, 3), NULL);
            keeps(38, "another LANE", BUSY, x -> x.item(l, (l + 1) % 3, 0, 3), CAST);
            keeps(38, "another LANE, i too great", BUSY, x -> x.item(l, (l + 2) % 3, MOST, 3), CAST);
            int count = 3 + (l == 1 ? 1 : l == 2 ? -1 : 0);
            outside(38, "i", BUSY, 0, count - 1, (x, v) -> x.item(l, l, v, 3), INDEX);
        }
        outside(38, "i of all there is room for", FULL_TOWN, 0, 23, (x, v) -> x.item(3, 0, v, 5), INDEX);
        keeps(38, "a row of 0 items", SheetEdgesTest::withEmptyRow, x -> x.item(0, 1, 0, 3), INDEX);
        lowestBits();
        firstAndLastItem();
    }

    static void lowestBits() {
        for (int lane = 0; lane < 3; lane++) {
            StreetCries x = new StreetCries();
            x.sheet(0, lane, 2);
            for (int v : WIDE) {
                due(38, "set " + v, x.item(0, lane, 1, v), 1);
                int kept = lane == 0 ? (byte) v : lane == 1 ? (short) v : v;
                due(38, v + " in lane " + lane, x.hands(0, lane, 1, 1, 1, 0), kept >= 0 && kept <= 9 ? kept : NOT);
            }
            int[] ends = {MOST, -1, lane == 0 ? 128 : 32768, lane == 0 ? 255 : 65535, -9};
            for (int v : ends) {
                due(38, "set " + v, x.item(0, lane, 1, v), 1);
                due(38, v + " in lane " + lane, x.hands(0, lane, 1, 1, 1, 0), NOT);
            }
        }
    }

    static void firstAndLastItem() {
        StreetCries x = new StreetCries();
        x.sheet(2, 1, 24);
        due(38, "the first", x.item(2, 1, 0, 6), 1);
        due(38, "the last", x.item(2, 1, 23, 8), 1);
        due(38, "the first is", x.hands(2, 1, 0, 1, 1, 0), 6);
        due(38, "the second is as it was", x.hands(2, 1, 1, 1, 1, 0), 0);
        due(38, "the last but one is as it was", x.hands(2, 1, 22, 1, 1, 0), 0);
        due(38, "the last is", x.hands(2, 1, 23, 1, 1, 0), 8);
    }

    // ---- promise 39

    static void copy() {
        for (Place place : new Place[] {NOBODY, BUSY, FULL_TOWN}) {
            outside(39, "from", place, 0, 3, (x, v) -> x.copy(v, 0, 0, 0, 1), BAD);
            outside(39, "to", place, 0, 3, (x, v) -> x.copy(0, 0, v, 0, 1), BAD);
            outside(39, "to, i below 0", place, 0, 3, (x, v) -> x.copy(3, -1, v, -1, -1), BAD);
        }
        for (int s = 0; s < 3; s++) {
            int sheet = s;
            keeps(39, "from a missing one", BUSY, x -> x.copy(3, 0, sheet, 0, 1), NULL);
            keeps(39, "to a missing one", BUSY, x -> x.copy(sheet, 0, 3, 0, 1), NULL);
            keeps(39, "NULL ahead of INDEX", BUSY, x -> x.copy(sheet, -1, 3, 0, -1), NULL);
            keeps(39, "NULL where none is taken", BUSY, x -> x.copy(sheet, 0, 3, 0, 0), NULL);
            keeps(39, "unlike LANES", BUSY, x -> x.copy(sheet, 0, (sheet + 1) % 3, 0, 1), CAST);
            keeps(39, "CAST ahead of INDEX", BUSY, x -> x.copy(sheet, -1, (sheet + 2) % 3, MOST, LEAST), CAST);
            keeps(39, "CAST where none is taken", BUSY, x -> x.copy(sheet, 0, (sheet + 1) % 3, 0, 0), CAST);
        }
        keeps(39, "both are missing", NOBODY, x -> x.copy(0, 0, 1, 0, 0), NULL);
        placesToCopy();
        noItemsToCopy();
        copies();
    }

    /** Sheet 0: 1 2 3, sheet 1: 4 5 6 7, both bytes. */
    static StreetCries twoRows() {
        StreetCries x = new StreetCries();
        fill(x, 0, 0, 1, 2, 3);
        fill(x, 1, 0, 4, 5, 6, 7);
        return x;
    }

    static void placesToCopy() {
        Place two = SheetEdgesTest::twoRows;
        outside(39, "i for one", two, 0, 2, (x, v) -> x.copy(0, v, 1, 0, 1), INDEX);
        outside(39, "j for one", two, 0, 3, (x, v) -> x.copy(0, 0, 1, v, 1), INDEX);
        outside(39, "i for two", two, 0, 1, (x, v) -> x.copy(0, v, 1, 0, 2), INDEX);
        outside(39, "j for two", two, 0, 2, (x, v) -> x.copy(0, 0, 1, v, 2), INDEX);
        outside(39, "n, of three", two, 0, 3, (x, v) -> x.copy(0, 0, 1, 0, v), INDEX);
        outside(39, "n, to three", two, 0, 3, (x, v) -> x.copy(1, 0, 0, 0, v), INDEX);
        outside(39, "n, from the last on", two, 0, 1, (x, v) -> x.copy(0, 2, 1, 0, v), INDEX);
        outside(39, "n, to the last on", two, 0, 1, (x, v) -> x.copy(0, 0, 1, 3, v), INDEX);
        outside(39, "n, behind the last", two, 0, 0, (x, v) -> x.copy(0, 3, 1, 4, v), INDEX);
        outside(39, "n, on one sheet", two, 0, 2, (x, v) -> x.copy(0, 0, 0, 1, v), INDEX);
        int[][] pastTheEnd = {{MOST, 0, 1}, {0, MOST, 1}, {1, 0, MOST}, {0, 1, MOST}, {MOST, MOST, MOST}, {3, 4, MOST},
            {LEAST, 0, LEAST}, {0, LEAST, LEAST}, {LEAST, LEAST, LEAST}, {MOST, 0, 2}, {-1, 0, 2}, {0, -1, 2}, {-1, -1, 1},
            {LEAST, 0, MOST}, {MOST, 0, LEAST}, {2, 2, -1}};
        for (int[] p : pastTheEnd) {
            keeps(39, "i " + p[0] + ", j " + p[1] + ", n " + p[2], two, x -> x.copy(0, p[0], 1, p[1], p[2]), INDEX);
            keeps(39, "i " + p[0] + ", j " + p[1] + ", n " + p[2] + ", on one", two, x -> x.copy(1, p[0], 1, p[1], p[2]), INDEX);
        }
    }

    static void noItemsToCopy() {
        Place two = SheetEdgesTest::twoRows;
        for (int i = 0; i <= 3; i++) {
            for (int j = 0; j <= 4; j++) {
                int from = i;
                int to = j;
                keeps(39, "none from " + i + " to " + j, two, x -> x.copy(0, from, 1, to, 0), 0);
            }
        }
        outside(39, "i, none is taken", two, 0, 3, (x, v) -> x.copy(0, v, 1, 0, 0), INDEX);
        outside(39, "j, none is taken", two, 0, 4, (x, v) -> x.copy(0, 0, 1, v, 0), INDEX);
        outside(39, "both, none is taken", two, 0, 3, (x, v) -> x.copy(0, v, 0, v, 0), INDEX);
        keeps(39, "rows of 0 items", SheetEdgesTest::withEmptyRow, x -> x.copy(0, 0, 0, 0, 0), 0);
        outside(39, "rows of 0 items, i", SheetEdgesTest::withEmptyRow, 0, 0, (x, v) -> x.copy(0, v, 0, 0, 0), INDEX);
        outside(39, "rows of 0 items, j", SheetEdgesTest::withEmptyRow, 0, 0, (x, v) -> x.copy(0, 0, 0, v, 0), INDEX);
        outside(39, "rows of 0 items, n", SheetEdgesTest::withEmptyRow, 0, 0, (x, v) -> x.copy(0, 0, 0, 0, v), INDEX);
    }

    static void copies() {
        copied(0, 0, 1, 0, 3, "123", "1237");
        copied(0, 0, 1, 1, 3, "123", "4123");
        copied(1, 0, 0, 0, 3, "456", "4567");
        copied(1, 1, 0, 0, 3, "567", "4567");
        copied(0, 2, 1, 3, 1, "123", "4563");
        copied(1, 0, 1, 1, 3, "123", "4456");
        copied(1, 1, 1, 0, 3, "123", "5677");
        copied(1, 0, 1, 0, 4, "123", "4567");
        copied(0, 0, 0, 1, 2, "112", "4567");
        copied(0, 1, 0, 0, 2, "233", "4567");
        copied(0, 0, 0, 2, 1, "121", "4567");
        keeps(39, "all there is room for, to itself", FULL_TOWN, x -> x.copy(3, 0, 3, 0, 24), 24);
        keeps(39, "one more", FULL_TOWN, x -> x.copy(3, 0, 3, 0, 25), INDEX);
        StreetCries x = FULL_TOWN.make();
        x.sheet(0, 0, 24);
        due(39, "all there is room for", x.copy(3, 0, 0, 0, 24), 24);
        due(39, "the first", x.hands(0, 0, 0, 1, 1, 0), 9);
        due(39, "the last", x.hands(0, 0, 23, 1, 1, 0), 4);
    }

    static void copied(int from, int i, int to, int j, int n, String sheet0, String sheet1) {
        StreetCries x = twoRows();
        due(39, "copy of " + n, x.copy(from, i, to, j, n), n);
        for (int k = 0; k < 3; k++) {
            due(39, "sheet 0, item " + k, x.hands(0, 0, k, 1, 1, 0), sheet0.charAt(k) - '0');
        }
        for (int k = 0; k < 4; k++) {
            due(39, "sheet 1, item " + k, x.hands(1, 0, k, 1, 1, 0), sheet1.charAt(k) - '0');
        }
        due(39, "as many as there were", x.drop(0) + x.drop(1), 7);
    }

    public static void main(String[] args) {
        hands();
        came();
        sheet();
        drop();
        item();
        copy();
        end();
    }
}
