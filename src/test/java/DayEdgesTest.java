/** The edges of promises 17 to 33: the least and the greatest, nothing there yet, no room left, refused calls. */
public final class DayEdgesTest extends Checks {

    // ---- promise 17

    static void buyer() {
        for (Place place : new Place[] {NOBODY, BUSY, FULL_TOWN}) {
            outside(17, "corner", place, 0, 24, (x, v) -> x.buyer(v, 1, 1, 1), BAD);
            outside(17, "kind", place, 0, 3, (x, v) -> x.buyer(1, v, 1, 1), BAD);
            outside(17, "floor", place, 0, 5, (x, v) -> x.buyer(1, 1, v, 1), BAD);
            outside(17, "patience", place, 0, 20, (x, v) -> x.buyer(1, 1, 1, v), BAD);
        }
        keeps(17, "no room", FULL_TOWN, x -> x.buyer(1, 1, 1, 1), FULL);
        StreetCries x = new StreetCries();
        due(17, "the least of each", x.buyer(0, 0, 0, 0), 0);
        due(17, "the greatest of each", x.buyer(24, 3, 5, 20), 1);
        for (int b = 2; b < 11; b++) {
            due(17, "as they come", x.buyer(b, b % 4, b % 6, b), b);
        }
        x.image();
        due(17, "the last that goes in", x.buyer(1, 1, 1, 1), 11);
        due(17, "the one after it", x.buyer(1, 1, 1, 1), FULL);
        due(17, "twelve", x.count(1), 12);
        x.restore();
        due(17, "room again", x.buyer(1, 1, 1, 1), 11);
        due(17, "and none", x.buyer(1, 1, 1, 1), FULL);
    }

    // ---- promise 18

    static void fate() {
        for (int what = 0; what < 3; what++) {
            int w = what;
            outside(18, "buyer", BUSY, 0, 1, (x, v) -> x.fate(v, w), BAD);
            outside(18, "buyer of twelve", FULL_TOWN, 0, 11, (x, v) -> x.fate(v, w), BAD);
            keeps(18, "nobody", NOBODY, x -> x.fate(0, w), BAD);
            keeps(18, "what it asks", BUSY, x -> x.fate(0, w), new int[] {0, 7, 0}[w]);
            keeps(18, "the last one", BUSY, x -> x.fate(1, w), new int[] {1, 23, 0}[w]);
        }
        outside(18, "what", BUSY, 0, 2, (x, v) -> x.fate(0, v), BAD);
        floors();
        patience();
        evening();
        nobodyToBuyFrom();
        upAndDown();
    }

    static void fated(String what, StreetCries x, int from, int in, int wasted) {
        due(18, what + ": from whom", x.fate(0, 0), from);
        due(18, what + ": in which minute", x.fate(0, 1), in);
        due(18, what + ": how often wasted", x.fate(0, 2), wasted);
    }

    /** One who cries at corner 0 in one minute and stays for so many. */
    static StreetCries stays(int begin, int minutes, int floor, int patience) {
        StreetCries x = with(0, 9, minutes, "0", "5");
        x.of(0, 2, begin);
        x.buyer(0, 0, floor, patience);
        return x;
    }

    static void floors() {
        for (int floor = 0; floor <= 5; floor++) {
            boolean intime = floor < 4;
            fated("floor " + floor, stays(10, 5, floor, 0), intime ? 0 : NONE, intime ? 11 + floor : NONE, intime ? 0 : 1);
        }
        StreetCries x = stays(10, 5, 5, 0);
        write(x, "0,0");
        x.round(0);
        fated("the greatest FLOOR", x, 0, 16, 0);
    }

    /** Cries in minutes 0, 3, .. 21; the one who sells comes to the buyer's corner in minute 21, for three. */
    static void patience() {
        int[] patience = {0, 1, 2, 18, 19, 20};
        int[] minutes = {22, 22, 21, 22, 22, 21};
        int[] wasted = {7, 7, 3, 1, 1, 0};
        for (int i = 0; i < patience.length; i++) {
            StreetCries x = with(0, 9, 3, "1,1,1,1,1,1,1,0", "0");
            x.buyer(0, 0, 0, patience[i]);
            fated("patience " + patience[i], x, 0, minutes[i], wasted[i]);
        }
    }

    static void evening() {
        fated("heard in the last minute", stays(119, 5, 0, 0), NONE, NONE, 0);
        fated("down in the last minute, to buy", stays(118, 2, 0, 0), 0, 119, 0);
        fated("down in the last minute, for nothing", stays(118, 1, 0, 0), NONE, NONE, 1);
        fated("down at the day's end", stays(118, 1, 0, 1), NONE, NONE, 0);
        fated("down at the day's end, 20", stays(98, 1, 0, 20), NONE, NONE, 1);
        fated("down at the day's end, 20", stays(99, 1, 0, 20), NONE, NONE, 0);
        fated("down in the last minute from floor 5", stays(113, 1, 5, 0), NONE, NONE, 1);
        fated("a minute behind the day", stays(114, 1, 5, 0), NONE, NONE, 0);
    }

    static void nobodyToBuyFrom() {
        StreetCries x = new StreetCries();
        x.buyer(0, 0, 0, 0);
        fated("no seller", x, NONE, NONE, 0);
        x.seller(1, 9, 5);
        fated("no seller of the kind", x, NONE, NONE, 0);
        x.seller(0, 9, 5);
        fated("the second of two sellers", x, 1, 1, 0);
        x.seller(0, 9, 5);
        fated("the least number of two", x, 1, 1, 0);
        x.of(1, 0, 1);
        fated("the last of three", x, 2, 1, 0);
        x.noise(0, 9);
        fated("a cry of 10 less 9", x, 2, 1, 0);
        x.of(0, 1, 8);
        x.of(1, 1, 8);
        x.of(2, 1, 7);
        fated("comes down for others' like tunes", x, 2, 1, 0);
        x.of(0, 1, 7);
        x.of(1, 1, 7);
        fated("none is heard", x, NONE, NONE, 0);
    }

    /** In the minute in which one goes up, it hears nothing; on the way and down, neither. */
    static void upAndDown() {
        String[] rounds = {"0", "0,0", "0,0,0", "0,0,0,0", "0,0,0,0,0", "0,0,0,0,0,0,0,0,0,0,0,0"};
        int[] wasted = {1, 1, 2, 2, 3, 6};
        for (int i = 0; i < rounds.length; i++) {
            StreetCries x = with(0, 1, 1, "24", "5");
            come(x, 1, 9, 1, rounds[i], "5");
            x.buyer(0, 0, 0, 0);
            fated("cries of another kind at " + rounds[i], x, NONE, NONE, wasted[i]);
        }
    }

    // ---- promise 19

    static void brings() {
        outside(19, "seller", BUSY, 0, 1, (x, v) -> x.brings(v), BAD);
        outside(19, "seller of six", FULL_TOWN, 0, 5, (x, v) -> x.brings(v), BAD);
        keeps(19, "nobody", NOBODY, x -> x.brings(0), BAD);
        for (int v : new int[] {NOT, FULL, NONE}) {
            keeps(19, "seller " + v, BUSY, x -> x.brings(v), BAD);
        }
        keeps(19, "one", BUSY, x -> x.brings(1), 1);
        StreetCries x = with(3, 9, 5, "0", "5");
        due(19, "without buyers", x.brings(0), 0);
        for (int b = 0; b < 12; b++) {
            x.buyer(0, 3, 0, 0);
            due(19, "buyers", x.brings(0), b + 1);
        }
        for (int s = 1; s < 6; s++) {
            come(x, 3, 9, 5, "0", "5");
            due(19, "one who comes behind others", x.brings(s), 0);
        }
        for (int s = 0; s < 5; s++) {
            x.of(s, 0, 0);
        }
        due(19, "the last alone", x.brings(5), 12);
    }

    // ---- promise 20

    static void day() {
        outside(20, "what", BUSY, 0, 2, (x, v) -> x.day(v), BAD);
        outside(20, "what", NOBODY, 0, 2, (x, v) -> x.day(v), BAD);
        for (int what = 0; what < 3; what++) {
            int w = what;
            keeps(20, "nobody, what " + w, NOBODY, x -> x.day(w), 0);
            keeps(20, "busy, what " + w, BUSY, x -> x.day(w), new int[] {2, 0, 5}[w]);
        }
        StreetCries x = new StreetCries();
        for (int b = 0; b < 12; b++) {
            x.buyer(0, 1, 0, 0);
        }
        due(20, "buyers without sellers", x.day(0), 0);
        for (int s = 0; s < 6; s++) {
            come(x, 0, 9, 5, "0,0,0,0,0,0,0,0,0,0,0,0", "5");
            x.of(s, 2, s);
        }
        due(20, "all cries there is room for", x.day(2), 72);
        due(20, "none sells the kind", x.day(0), 0);
        due(20, "none is lured", x.day(1), 0);
        x.of(5, 2, 119);
        due(20, "the last of all begins with the day's last minute", x.day(2), 61);
        x.of(5, 0, 1);
        due(20, "all twelve are lured in every second minute of 60", x.day(1), 12 * 30);
        x.of(0, 0, 1);
        due(20, "all twelve buy", x.day(0), 12);
        due(20, "none is wasted", x.day(1), 0);
    }

    // ---- promise 21

    static void best() {
        for (int what = 0; what < 3; what++) {
            int w = what;
            outside(21, "seller", BUSY, 0, 1, (x, v) -> x.best(v, w), BAD);
            outside(21, "seller of six", FULL_TOWN, 0, 5, (x, v) -> x.best(v, w), BAD);
            keeps(21, "nobody", NOBODY, x -> x.best(0, w), BAD);
            keeps(21, "busy, what " + w, BUSY, x -> x.best(0, w), new int[] {0, 0, 1}[w]);
        }
        outside(21, "what", BUSY, 0, 2, (x, v) -> x.best(0, v), BAD);
        int[] cries = {0, 3, 4, 9, 48, 53, 54, 55, 58, 59, 63};
        for (int cry : cries) {
            int minute = cry + 1;
            boolean tried = minute % 5 == 0 && minute <= 55;
            StreetCries x = meets(cry);
            due(21, "minute, to be there in " + minute, x.best(0, 0), tried ? minute : 0);
            due(21, "way, to be there in " + minute, x.best(0, 1), 0);
            due(21, "brings, to be there in " + minute, x.best(0, 2), tried ? 1 : 0);
        }
        bothWays();
    }

    /** One who is heard nowhere, and a buyer at corner 0 who is down for it in one minute alone. */
    static StreetCries meets(int cry) {
        StreetCries x = with(0, 1, 1, "0", "0");
        x.of(0, 2, 119);
        come(x, 1, 9, 1, "0", "0");
        x.of(1, 2, cry);
        x.noise(0, 9);
        x.buyer(0, 0, 0, 0);
        return x;
    }

    static void bothWays() {
        StreetCries x = meets(54);
        write(x, "1,0");
        x.round(0);
        due(21, "from its end in the last minute", x.best(0, 0), 55);
        due(21, "from its end", x.best(0, 1), 1);
        due(21, "from its end, brings", x.best(0, 2), 1);
        write(x, "0,0,0,0,0,0,0,0,0,0,0,0");
        x.round(0);
        due(21, "of like ones the first minute", x.best(0, 0), 45);
        due(21, "of like ones way 0", x.best(0, 1), 0);
        due(21, "its round stays", x.told(0, 0, 11), 0);
        due(21, "its begin stays", x.of(0, 2, 0), 119);
    }

    // ---- promise 22

    static void rests() {
        for (int what = 0; what < 3; what++) {
            int w = what;
            outside(22, "one", BUSY, 0, 1, (x, v) -> x.rests(v, 0, w), BAD);
            outside(22, "other", BUSY, 0, 1, (x, v) -> x.rests(1, v, w), BAD);
            outside(22, "other of six", FULL_TOWN, 0, 5, (x, v) -> x.rests(5, v, w), BAD);
            keeps(22, "nobody", NOBODY, x -> x.rests(0, 1, w), BAD);
            keeps(22, "one alone", BUSY, x -> x.rests(0, 0, w), BAD);
            keeps(22, "one alone", BUSY, x -> x.rests(1, 1, w), BAD);
            keeps(22, "one alone of six", FULL_TOWN, x -> x.rests(5, 5, w), BAD);
            keeps(22, "two, what " + w, BUSY, x -> x.rests(0, 1, w), new int[] {36, 0, 0}[w]);
            keeps(22, "two, what " + w, BUSY, x -> x.rests(1, 0, w), new int[] {36, 0, 0}[w]);
            keeps(22, "none, what " + w, DayEdgesTest::neverAtRest, x -> x.rests(0, 1, w), w == 0 ? 0 : NONE);
        }
        outside(22, "what", BUSY, 0, 2, (x, v) -> x.rests(0, 1, v), BAD);
        outside(22, "what, ahead of NONE", DayEdgesTest::neverAtRest, 0, 2, (x, v) -> x.rests(0, 1, v), BAD);
        rested(49, 49, 1, 50, 50);
        rested(9, 39, 1, 10, 40);
        rested(39, 9, 1, 40, 10);
        rested(49, 59, 6, 50, 0);
        rested(59, 49, 6, 0, 50);
        rested(59, 59, 36, 0, 0);
        rested(48, 50, 36, 0, 0);
        StreetCries x = with(0, 3, 1, "0", "5");
        come(x, 1, 3, 1, "0", "5");
        x.buyer(0, 0, 5, 4);
        int[] due = {11, 0, 50};
        int[] turned = {11, 0, 10};
        for (int what = 0; what < 3; what++) {
            due(22, "one needs the other's cry, what " + what, x.rests(0, 1, what), due[what]);
            due(22, "one needs the other's cry, turned, what " + what, x.rests(1, 0, what), turned[what]);
        }
    }

    static StreetCries neverAtRest() {
        StreetCries x = with(0, 1, 3, "24,23", "0");
        come(x, 0, 1, 4, "23", "9");
        x.buyer(23, 0, 2, 4);
        return x;
    }

    /** Two who are heard nowhere, each with a buyer at corner 0 who is down for it in one minute alone. */
    static void rested(int cryForOne, int cryForOther, int many, int one, int other) {
        StreetCries x = with(0, 1, 1, "0", "0");
        come(x, 1, 1, 1, "0", "9");
        come(x, 2, 9, 1, "0", "0");
        come(x, 2, 9, 1, "0", "9");
        x.of(2, 2, cryForOne);
        x.of(3, 2, cryForOther);
        x.noise(0, 9);
        x.buyer(0, 0, 0, 0);
        x.buyer(0, 1, 0, 0);
        due(22, cryForOne + " and " + cryForOther + ", how many", x.rests(0, 1, 0), many);
        due(22, cryForOne + " and " + cryForOther + ", the one", x.rests(0, 1, 1), one);
        due(22, cryForOne + " and " + cryForOther + ", the other", x.rests(0, 1, 2), other);
    }

    // ---- promise 23

    static void fresh() {
        for (Place place : new Place[] {NOBODY, BUSY, FULL_TOWN}) {
            outside(23, "n", place, 1, 3, (x, v) -> x.fresh(v, 1, 0, 0), BAD);
            outside(23, "n, apart", place, 1, 3, (x, v) -> x.fresh(v, 1, 0, -1), BAD);
            outside(23, "loud", place, 1, 9, (x, v) -> x.fresh(1, v, 0, 0), BAD);
            outside(23, "carry", place, 0, 12, (x, v) -> x.fresh(1, 1, v, 0), BAD);
            for (int n = 1; n <= 3; n++) {
                int notes = n;
                outside(23, "i of " + n, place, -1, n - 1, (x, v) -> x.fresh(notes, 1, 0, v), BAD);
                outside(23, "i of " + n + ", ahead of NONE", place, -1, n - 1, (x, v) -> x.fresh(notes, 1, 12, v), BAD);
                for (int i = -1; i < n; i++) {
                    int at = i;
                    keeps(23, "none CARRIES so", place, x -> x.fresh(notes, 8, 12, at), NONE);
                    keeps(23, "none CARRIES so", place, x -> x.fresh(notes, 1, 5, at), NONE);
                }
            }
        }
        firstWithoutSellers();
        farFromSellers();
    }

    static void freshIs(String what, StreetCries x, int loud, int carry, int apart, int... notes) {
        due(23, what + ", apart", x.fresh(notes.length, loud, carry, -1), apart);
        for (int i = 0; i < notes.length; i++) {
            due(23, what + ", note " + i, x.fresh(notes.length, loud, carry, i), notes[i]);
        }
    }

    static void firstWithoutSellers() {
        StreetCries x = new StreetCries();
        freshIs("any", x, 1, 0, 0, 0);
        freshIs("any", x, 9, 9, 0, 0, 0, 0);
        freshIs("LOUD alone", x, 1, 1, 0, 0, 0);
        freshIs("one more", x, 1, 2, 0, 3);
        freshIs("one more", x, 1, 2, 0, 0, 6);
        freshIs("one more", x, 1, 2, 0, 0, 0, 9);
        freshIs("two more", x, 1, 3, 0, 0, 9, 9);
        freshIs("the most", x, 1, 4, 0, 9);
        freshIs("the most", x, 9, 12, 0, 9, 9);
        freshIs("the most", x, 9, 12, 0, 9, 9, 9);
    }

    static void farFromSellers() {
        StreetCries x = with(0, 1, 1, "0", "0");
        freshIs("one seller", x, 1, 0, 9, 9);
        freshIs("one seller", x, 1, 0, 13, 9, 0);
        come(x, 0, 1, 1, "0", "9");
        freshIs("4 and 5 are like far", x, 1, 0, 4, 4);
        StreetCries turned = with(0, 1, 1, "0", "9");
        come(turned, 0, 1, 1, "0", "0");
        freshIs("4 and 5 are like far, whoever came first", turned, 1, 0, 4, 4);
        StreetCries all = new StreetCries();
        for (int s = 0; s < 6; s++) {
            come(all, 0, 1, 1, "0", "" + 2 * s % 10);
        }
        freshIs("the sixth counts", all, 1, 0, 1, 1);
        due(23, "bylaws count for nothing", underAllBylaws(all).fresh(1, 9, 12, 0), 9);
        StreetCries six = with(0, 1, 1, "0", "555555");
        freshIs("a shorter one", six, 1, 0, 25, 0);
        freshIs("a shorter one", six, 1, 0, 27, 0, 0, 0);
    }

    static StreetCries underAllBylaws(StreetCries x) {
        for (int bylaw = 0; bylaw < 4; bylaw++) {
            x.bylaw(bylaw, true);
        }
        return x;
    }

    // ---- promise 24

    static void loudness() {
        outside(24, "corner", BUSY, 0, 24, (x, v) -> x.loudness(v), BAD);
        outside(24, "corner", NOBODY, 0, 24, (x, v) -> x.loudness(v), BAD);
        keeps(24, "nobody", NOBODY, x -> x.loudness(24), 0);
        keeps(24, "the first corner", BUSY, x -> x.loudness(0), 3);
        keeps(24, "the last corner", BUSY, x -> x.loudness(24), 1);
        StreetCries x = new StreetCries();
        for (int s = 0; s < 6; s++) {
            come(x, s % 4, 9, 5, "0,0,0,0,0,0,0,0,0,0,0,0", "5");
        }
        due(24, "all cries there is room for", x.loudness(24), 72);
        for (int s = 0; s < 6; s++) {
            x.of(s, 2, 119 - 5 * s);
        }
        due(24, "up to the day's end", x.loudness(0), 1 + 2 + 3 + 4 + 5 + 6);
        x.noise(0, 9);
        due(24, "10 less 9", x.loudness(0), 21);
        x.of(5, 1, 8);
        due(24, "9 less 9", x.loudness(0), 21);
        x.of(5, 1, 7);
        due(24, "8 less 9", x.loudness(0), 15);
    }

    // ---- promise 25

    static void quiet() {
        outside(25, "corner", BUSY, 0, 24, (x, v) -> x.quiet(v, 3), BAD);
        outside(25, "most", BUSY, 0, 999, (x, v) -> x.quiet(0, v), BAD);
        outside(25, "most", NOBODY, 0, 999, (x, v) -> x.quiet(0, v), BAD);
        outside(25, "corner, ahead of NONE", BUSY, 0, 24, (x, v) -> x.quiet(v, 0), BAD);
        keeps(25, "nobody cries", NOBODY, x -> x.quiet(0, 0), 0);
        keeps(25, "the greatest number", BUSY, x -> x.quiet(0, 999), 0);
        keeps(25, "as many as there are", BUSY, x -> x.quiet(0, 5), 0);
        keeps(25, "one less", BUSY, x -> x.quiet(0, 4), 4);
        keeps(25, "as many as stay", BUSY, x -> x.quiet(0, 3), 4);
        keeps(25, "less than stay", BUSY, x -> x.quiet(0, 2), NONE);
        keeps(25, "the least number", BUSY, x -> x.quiet(0, 0), NONE);
        keeps(25, "the last corner", BUSY, x -> x.quiet(24, 999), 0);
        fewest();
    }

    /** One cry each that bylaw 0, 1, 2, 3 alone keeps from corner 0. */
    static void fewest() {
        StreetCries x = with(0, 3, 1, "0", "5");
        x.of(0, 2, 60);
        come(x, 1, 3, 1, "1", "5");
        x.noise(1, 0);
        come(x, 2, 9, 1, "24", "5");
        come(x, 3, 1, 1, "20", "5");
        come(x, 3, 9, 1, "10", "5");
        int[] sets = {15, 7, 3, 1, 0};
        for (int most = 0; most < sets.length; most++) {
            due(25, "no more than " + most, x.quiet(0, most), sets[most]);
            due(25, "in place of those in force", underAllBylaws(x).quiet(0, most), sets[most]);
        }
        x.of(0, 2, 0);
        due(25, "without bylaw 0", x.quiet(0, 1), 14);
        due(25, "by two of three", x.quiet(0, 2), 6);
        due(25, "by one of three", x.quiet(0, 3), 2);
        due(25, "one cry stays", x.quiet(0, 0), NONE);
        due(25, "bylaws stay", x.count(3), 4);
    }

    // ---- promise 26

    static void costs() {
        for (int b = 0; b < 4; b++) {
            int bylaw = b;
            outside(26, "seller", BUSY, 0, 1, (x, v) -> x.costs(bylaw, v), -100001);
            outside(26, "seller of six", FULL_TOWN, 0, 5, (x, v) -> x.costs(bylaw, v), -100001);
            keeps(26, "nobody", NOBODY, x -> x.costs(bylaw, 0), -100001);
            keeps(26, "all are in force", FULL_TOWN, x -> x.costs(bylaw, 5), 0);
        }
        outside(26, "bylaw", BUSY, 0, 3, (x, v) -> x.costs(v, 0), -100001);
        outside(26, "bylaw, nobody", NOBODY, 0, 3, (x, v) -> x.costs(v, 0), -100001);
        for (int v : new int[] {31, 32, 33, 64, -32}) {
            keeps(26, "bylaw " + v, BUSY, x -> x.costs(v, 0), -100001);
        }
        keeps(26, "nothing", BUSY, x -> x.costs(3, 1), 0);
        StreetCries x = oneOrTheOther();
        due(26, "all that one brings", x.costs(1, 0), 12);
        due(26, "what another gets by it", x.costs(1, 1), -12);
        due(26, "who sells nothing", x.costs(1, 2), 0);
        due(26, "bylaws stay", x.count(3), 0);
        due(26, "brings stays", x.brings(0), 12);
    }

    /** All come down for a cry at a corner without noise, and buy from seller 0; without it, from seller 1. */
    static StreetCries oneOrTheOther() {
        StreetCries x = with(0, 1, 5, "0", "5");
        x.of(0, 2, 11);
        come(x, 0, 9, 5, "0", "5");
        x.of(1, 2, 20);
        come(x, 1, 9, 1, "1", "5");
        x.of(2, 2, 10);
        x.noise(0, 3);
        x.noise(1, 0);
        for (int b = 0; b < 12; b++) {
            x.buyer(0, 0, 0, b);
        }
        return x;
    }

    // ---- promise 27

    static void window() {
        for (Place place : new Place[] {NOBODY, BUSY, FULL_TOWN}) {
            outside(27, "corner", place, 0, 24, (x, v) -> x.window(v, 1, true), BAD);
            outside(27, "minute", place, 0, 119, (x, v) -> x.window(1, v, false), BAD);
        }
        keeps(27, "no room", FULL_TOWN, x -> x.window(0, 0, true), FULL);
        StreetCries x = with(0, 9, 1, "0", "5");
        due(27, "the least of each", x.window(0, 0, false), 1);
        due(27, "the greatest of each", x.window(24, 119, false), 2);
        for (int i = 3; i < 12; i++) {
            due(27, "how many there are", x.window(1, 0, false), i);
        }
        due(27, "all begin elsewhen", x.went(0, 0), 118);
        due(27, "the last that goes in", x.window(3, 7, false), 12);
        due(27, "the last counts", x.went(0, 0), 117);
        due(27, "the one after it", x.window(3, 8, false), FULL);
        due(27, "which counts for nothing", x.went(0, 0), 117);
        due(27, "all go", x.shut(), 12);
        due(27, "room again", x.window(0, 0, true), 1);
    }

    // ---- promise 28

    static void went() {
        for (int what = 0; what < 3; what++) {
            int w = what;
            outside(28, "seller", BUSY, 0, 1, (x, v) -> x.went(v, w), BAD);
            outside(28, "seller of six", FULL_TOWN, 0, 5, (x, v) -> x.went(v, w), BAD);
            keeps(28, "nobody", NOBODY, x -> x.went(0, w), BAD);
            keeps(28, "one of two", BUSY, x -> x.went(0, w), new int[] {3, 1, 5}[w]);
            keeps(28, "the other of two", BUSY, x -> x.went(1, w), new int[] {1, 5, 5}[w]);
            keeps(28, "none agrees, what " + w, DayEdgesTest::contradicted, x -> x.went(0, w), w == 0 ? 0 : NONE);
        }
        outside(28, "what", BUSY, 0, 2, (x, v) -> x.went(0, v), BAD);
        outside(28, "what, ahead of NONE", DayEdgesTest::contradicted, 0, 2, (x, v) -> x.went(0, v), BAD);
        StreetCries x = with(0, 9, 1, "0", "5");
        wentAs(x, 120, 0, 119);
        x.window(0, 0, true);
        wentAs(x, 1, 0, 0);
        x.shut();
        x.window(0, 119, true);
        wentAs(x, 1, 119, 119);
        x.shut();
        x.window(0, 119, false);
        wentAs(x, 119, 0, 118);
        x.window(0, 0, false);
        wentAs(x, 118, 1, 118);
        StreetCries y = with(0, 9, 5, "0,0,0,0,0,0,0,0,0,0,0,0", "5");
        y.window(0, 119, true);
        wentAs(y, 12, 64, 119);
        y.window(0, 3, true);
        wentAs(y, 0, NONE, NONE);
    }

    static StreetCries contradicted() {
        StreetCries x = with(0, 9, 1, "0", "5");
        x.window(0, 7, true);
        x.window(0, 7, false);
        return x;
    }

    static void wentAs(StreetCries x, int many, int first, int last) {
        due(28, "how many", x.went(0, 0), many);
        due(28, "the first", x.went(0, 1), first);
        due(28, "the last", x.went(0, 2), last);
    }

    // ---- promise 29

    static void shut() {
        keeps(29, "none", NOBODY, x -> x.shut(), 0);
        StreetCries x = BUSY.make();
        due(29, "two", x.shut(), 2);
        due(29, "none is left", x.count(2), 0);
        due(29, "and again", x.shut(), 0);
        due(29, "all agree", x.went(0, 0), 120);
        StreetCries y = FULL_TOWN.make();
        due(29, "all there is room for", y.shut(), 12);
        for (int i = 1; i <= 12; i++) {
            due(29, "room again", y.window(0, 0, false), i);
        }
        due(29, "and none", y.window(0, 0, false), FULL);
    }

    // ---- promise 30

    static void dies() {
        outside(30, "seller", BUSY, 0, 1, (x, v) -> x.dies(v, 0), BAD);
        outside(30, "seller of six", FULL_TOWN, 0, 5, (x, v) -> x.dies(v, 0), BAD);
        outside(30, "corner", BUSY, 0, 24, (x, v) -> x.dies(0, v), BAD);
        keeps(30, "nobody", NOBODY, x -> x.dies(0, 0), BAD);
        keeps(30, "where it cries", BUSY, x -> x.dies(0, 0), 5);
        keeps(30, "at noise 0 already", BUSY, x -> x.dies(0, 24), 0);
        for (int loud = 1; loud <= 9; loud++) {
            for (String tune : new String[] {"0", "9"}) {
                StreetCries x = with(0, loud, 1, "24", tune);
                int carries = loud + (tune.equals("9") ? 3 : 0);
                due(30, "carries " + carries, x.dies(0, 24), carries < 9 ? carries + 1 : NONE);
                due(30, "8 far, carries " + carries, x.dies(0, 0), carries < 8 ? 0 : carries - 7);
                due(30, "4 far, carries " + carries, x.dies(0, 12), carries < 4 ? 0 : carries - 3);
            }
        }
        outside(30, "corner, ahead of NONE", () -> with(0, 9, 1, "24", "9"), 0, 24, (x, v) -> x.dies(0, v), BAD);
        StreetCries x = with(0, 9, 1, "0", "9");
        x.bylaw(0, true);
        x.of(0, 2, 60);
        due(30, "no cry at all", x.dies(0, 0), 0);
        x.of(0, 2, 59);
        due(30, "one cry", x.dies(0, 0), NONE);
    }

    // ---- promise 31

    static void clock() {
        outside(31, "seller", BUSY, 0, 1, (x, v) -> x.clock(v, 0), BAD);
        outside(31, "seller of six", FULL_TOWN, 0, 5, (x, v) -> x.clock(v, 0), BAD);
        outside(31, "corner", BUSY, 0, 24, (x, v) -> x.clock(0, v), BAD);
        keeps(31, "nobody", NOBODY, x -> x.clock(0, 0), BAD);
        keeps(31, "all", BUSY, x -> x.clock(0, 0), 3);
        keeps(31, "none", BUSY, x -> x.clock(0, 24), 0);
        keeps(31, "one", BUSY, x -> x.clock(1, 24), 1);
        StreetCries x = with(0, 9, 5, "0,0,0,0,0,0,0,0,0,0,0,0", "9");
        due(31, "all there is room for", x.clock(0, 24), 12);
        x.of(0, 2, 64);
        due(31, "the last in the last minute", x.clock(0, 0), 12);
        x.of(0, 2, 65);
        due(31, "the last a minute behind the day", x.clock(0, 0), 11);
        x.of(0, 2, 119);
        due(31, "the first alone", x.clock(0, 0), 1);
    }

    // ---- promises 32 and 33

    static void image() {
        keeps(33, "no image", NOBODY, x -> x.restore(), NONE);
        keeps(33, "no image of a full town", FULL_TOWN, x -> x.restore(), NONE);
        keeps(32, "an image of what it is", IMAGED, x -> x.image(), 1);
        keeps(33, "back to what it is", IMAGED, x -> x.restore(), 1);
        becomes(33, "back to another town", BUSY, x -> x.restore(), 1, IMAGED);
        becomes(33, "back and back again", BUSY, x -> x.restore() + x.likeness(20) + x.shut() + x.restore(), 1 + 6 + 1 + 1, IMAGED);
        becomes(32, "the newest image is the one", BUSY, x -> {
            x.image();
            x.noise(0, 9);
            x.seller(0, 1, 1);
            x.buyer(0, 0, 0, 0);
            return x.restore();
        }, 1, DayEdgesTest::busyWithItself);
        becomes(33, "nobody again", NOBODY, x -> {
            x.image();
            settle(x);
            return x.restore();
        }, 1, DayEdgesTest::nobodyWithItself);
        fullTownAgain();
        roomAgain();
    }

    static StreetCries busyWithItself() {
        StreetCries x = BUSY.make();
        x.image();
        return x;
    }

    static StreetCries nobodyWithItself() {
        StreetCries x = new StreetCries();
        x.image();
        return x;
    }

    static void fullTownAgain() {
        StreetCries x = FULL_TOWN.make();
        due(32, "an image of all there is room for", x.image(), 1);
        x.shut();
        x.noise(3, 0);
        x.of(5, 2, 0);
        x.likeness(0);
        x.bylaw(3, false);
        due(33, "a full town again", x.restore(), 1);
        check(lookWithoutImage(x).equals(lookWithoutImage(FULL_TOWN.make())), "promise 33: a full town is not as it was");
    }

    static void settle(StreetCries x) {
        come(x, 2, 7, 3, "12,13,14", "789");
        x.buyer(13, 2, 0, 9);
        x.window(12, 0, true);
        x.bylaw(0, true);
        x.likeness(17);
        x.noise(24, 9);
    }

    /** What came behind an image takes no room once it has gone, and leaves nothing to those who come then. */
    static void roomAgain() {
        StreetCries x = nobodyWithItself();
        for (int again = 0; again < 3; again++) {
            for (int i = 0; i < 12; i++) {
                due(33, "a seller", x.seller(3, 9, 5), i < 6 ? i : FULL);
                due(33, "a buyer", x.buyer(24, 3, 5, 20), i);
                due(33, "a window", x.window(24, 119, true), i + 1);
            }
            due(33, "a new round", x.told(0, 0, -1), 1);
            due(33, "a new round's corner", x.told(0, 0, 0), 0);
            due(33, "a new tune", x.told(5, 1, 0), 5);
            due(33, "a new begin", x.of(5, 2, 77), 0);
            write(x, "9,9");
            due(33, "a round", x.round(0), 2);
            write(x, "98");
            due(33, "a tune", x.tune(5), 2);
            due(33, "restore", x.restore(), 1);
            due(33, "nobody", x.count(0) + x.count(1) + x.count(2), 0);
        }
    }

    public static void main(String[] args) {
        buyer();
        fate();
        brings();
        day();
        best();
        rests();
        fresh();
        loudness();
        quiet();
        costs();
        window();
        went();
        shut();
        dies();
        clock();
        image();
        end();
    }
}
