/** The edges of promises 1 to 16: the least and the greatest, nothing there yet, no room left, refused calls. */
public final class TownEdgesTest extends Checks {
    static final String TWELVE = "0,1,2,3,4,9,14,19,24,23,22,21";
    static final String DIGITS = "123456789012345678901234567890123456789012345678901234567890";
    static final String BLANKS = " ".repeat(60);
    /** Without what the tape held, so that a text can be tried. */
    static final Place NO_TAPE = () -> {
        StreetCries x = BUSY.make();
        x.town();
        return x;
    };

    // ---- promise 1: a still town, nobody

    static void newObject() {
        keeps(1, "no image", NOBODY, x -> x.restore(), NONE);
        keeps(1, "no windows", NOBODY, x -> x.shut(), 0);
        keeps(1, "heard at 0", NOBODY, x -> x.heard(0, 0), 0);
        keeps(1, "heard at 24", NOBODY, x -> x.heard(24, 119), 0);
        keeps(1, "loudness", NOBODY, x -> x.loudness(0), 0);
        keeps(1, "quiet by no bylaw", NOBODY, x -> x.quiet(24, 0), 0);
        for (int what = 0; what < 3; what++) {
            int w = what;
            keeps(1, "day", NOBODY, x -> x.day(w), 0);
        }
        for (int what = 0; what < 4; what++) {
            int w = what;
            keeps(1, "how many", NOBODY, x -> x.count(w), 0);
            keeps(1, "no sheet", NOBODY, x -> x.drop(w), NULL);
            keeps(1, "bylaw", NOBODY, x -> x.bylaw(w, false), 0);
        }
        for (int corner = 0; corner < 25; corner++) {
            int c = corner;
            keeps(1, "noise", NOBODY, x -> x.noise(c, 1), 1);
        }
        keeps(1, "likeness", NOBODY, x -> x.likeness(3), 3);
        keeps(1, "an empty tape", NOBODY, x -> x.town(), -20);
        noSellers();
        objectsApart();
        lastCall();
    }

    static void noSellers() {
        Call[] calls = {x -> x.of(0, 0, 0), x -> x.round(0), x -> x.tune(0), x -> x.told(0, 0, -1), x -> x.where(0, 0),
            x -> x.carries(0), x -> x.apart(0, 0), x -> x.fate(0, 0), x -> x.brings(0), x -> x.best(0, 0),
            x -> x.rests(0, 1, 0), x -> x.went(0, 0), x -> x.dies(0, 0), x -> x.clock(0, 0)};
        for (int i = 0; i < calls.length; i++) {
            keeps(1, "no seller, call " + i, NOBODY, calls[i], BAD);
        }
        keeps(1, "no seller", NOBODY, x -> x.costs(0, 0), -100001);
    }

    static void objectsApart() {
        StreetCries one = BUSY.make();
        StreetCries other = new StreetCries();
        due(1, "another object's sellers", other.count(0), 0);
        due(1, "another object's image", other.restore(), NONE);
        due(1, "another object's sheet", other.drop(0), NULL);
        due(1, "another object's tape", other.type(0x31L, 1), 1);
        due(1, "this one's sellers", one.count(0), 2);
    }

    static void lastCall() {
        StreetCries x = new StreetCries();
        for (int call = 1; call <= 512; call++) {
            int was = call <= 25 ? 1 : (call - 25) % 10;
            due(1, "call " + call + " of 512", x.noise(call % 25, call % 10), was);
        }
    }

    // ---- promise 2

    static void noise() {
        outside(2, "corner", BUSY, 0, 24, (x, v) -> x.noise(v, 5), BAD);
        outside(2, "noise", BUSY, 0, 9, (x, v) -> x.noise(3, v), BAD);
        keeps(2, "both", BUSY, x -> x.noise(25, 10), BAD);
        StreetCries x = new StreetCries();
        for (int corner = 0; corner < 25; corner += 24) {
            due(2, "1 at first", x.noise(corner, 9), 1);
            due(2, "the greatest", x.noise(corner, 0), 9);
            due(2, "the least", x.noise(corner, 4), 0);
        }
        due(2, "a corner keeps its own", x.noise(0, 1), 4);
    }

    // ---- promise 3

    static void seller() {
        outside(3, "kind", BUSY, 0, 3, (x, v) -> x.seller(v, 1, 1), BAD);
        outside(3, "loud", BUSY, 1, 9, (x, v) -> x.seller(0, v, 1), BAD);
        outside(3, "pace", BUSY, 1, 5, (x, v) -> x.seller(0, 1, v), BAD);
        keeps(3, "no room", FULL_TOWN, x -> x.seller(0, 1, 1), FULL);
        outside(3, "kind, ahead of FULL", FULL_TOWN, 0, 3, (x, v) -> x.seller(v, 1, 1), BAD);
        outside(3, "loud, ahead of FULL", FULL_TOWN, 1, 9, (x, v) -> x.seller(0, v, 1), BAD);
        outside(3, "pace, ahead of FULL", FULL_TOWN, 1, 5, (x, v) -> x.seller(0, 1, v), BAD);
        StreetCries x = new StreetCries();
        due(3, "the least of each", x.seller(0, 1, 1), 0);
        due(3, "the greatest of each", x.seller(3, 9, 5), 1);
        for (int s = 2; s < 5; s++) {
            due(3, "as they come", x.seller(1, 4, 2), s);
        }
        x.image();
        due(3, "the last that goes in", x.seller(2, 5, 3), 5);
        due(3, "the one after it", x.seller(2, 5, 3), FULL);
        x.restore();
        due(3, "room again", x.seller(2, 6, 4), 5);
        due(3, "and none", x.seller(2, 6, 4), FULL);
        cameAs(x, 0, 0, 1, 1);
        cameAs(x, 1, 3, 9, 5);
        cameAs(x, 5, 2, 6, 4);
    }

    static void cameAs(StreetCries x, int s, int kind, int loud, int pace) {
        due(3, "round", x.told(s, 0, -1), 1);
        due(3, "corner 0 alone", x.told(s, 0, 0), 0);
        due(3, "tune", x.told(s, 1, -1), 1);
        due(3, "5 alone", x.told(s, 1, 0), 5);
        due(3, "kind", x.of(s, 0, 0), kind);
        due(3, "loud", x.of(s, 1, 1), loud);
        due(3, "begins at 0", x.of(s, 2, 0), 0);
        due(3, "pace", x.of(s, 3, 1), pace);
    }

    // ---- promise 4

    static void of() {
        int[] least = {0, 1, 0, 1};
        int[] most = {3, 9, 119, 5};
        for (int what = 0; what < 4; what++) {
            int w = what;
            outside(4, "v of " + w, BUSY, least[w], most[w], (x, v) -> x.of(1, w, v), BAD);
            outside(4, "seller, what " + w, BUSY, 0, 1, (x, v) -> x.of(v, w, 1), BAD);
            outside(4, "seller of six, what " + w, FULL_TOWN, 0, 5, (x, v) -> x.of(v, w, 1), BAD);
            keeps(4, "nobody", NOBODY, x -> x.of(0, w, 1), BAD);
            StreetCries x = FULL_TOWN.make();
            due(4, "the greatest goes in", x.of(5, w, most[w]), new int[] {1, 4, 55, 1}[w]);
            due(4, "the least goes in", x.of(5, w, least[w]), most[w]);
            due(4, "the least stands", x.of(5, w, 1), least[w]);
        }
        outside(4, "what", BUSY, 0, 3, (x, v) -> x.of(0, v, 1), BAD);
    }

    // ---- promise 5

    static void type() {
        outside(5, "n", BUSY, 1, 8, (x, v) -> x.type(0x3131313131313131L, v), BAD);
        long[] wrongBytes = {0x1FL, 0x7FL, 0x00L, 0x80L, 0xFFL, 0xB1L, Long.MIN_VALUE, Long.MAX_VALUE, -1L, 0L};
        for (long w : wrongBytes) {
            keeps(5, "the lowest byte of " + w, BUSY, x -> x.type(w, 1), BAD);
        }
        for (int place = 0; place < 8; place++) {
            long low = 0x3131313131313131L ^ (0x31L ^ 0x1FL) << 8 * place;
            long high = 0x3131313131313131L ^ (0x31L ^ 0x7FL) << 8 * place;
            long top = 0x3131313131313131L ^ 0x80L << 8 * place;
            int taken = place + 1;
            keeps(5, "byte 31 at " + place, BUSY, x -> x.type(low, taken), BAD);
            keeps(5, "byte 127 at " + place, BUSY, x -> x.type(high, 8), BAD);
            keeps(5, "byte 177 at " + place, BUSY, x -> x.type(top, taken), BAD);
            if (place > 0) {
                due(5, "above what is taken", new StreetCries().type(top, place), place);
                due(5, "above what is taken", new StreetCries().type(low, place), place);
            }
        }
        for (int n = 1; n <= 8; n++) {
            int many = n;
            keeps(5, "the least long", BUSY, x -> x.type(Long.MIN_VALUE, many), BAD);
            keeps(5, "the greatest long", BUSY, x -> x.type(Long.MAX_VALUE, many), BAD);
            due(5, "bytes 32", new StreetCries().type(0x2020202020202020L, n), n);
            due(5, "bytes 126", new StreetCries().type(0x7E7E7E7E7E7E7E7EL, n), n);
        }
        tapeRoom();
    }

    static void tapeRoom() {
        keeps(5, "no room", FULL_TOWN, x -> x.type(0x31L, 1), FULL);
        keeps(5, "no room for 8", FULL_TOWN, x -> x.type(0x3131313131313131L, 8), FULL);
        keeps(5, "a byte, ahead of FULL", FULL_TOWN, x -> x.type(0x1FL, 1), BAD);
        outside(5, "n, ahead of FULL", FULL_TOWN, 1, 8, (x, v) -> x.type(0x3131313131313131L, v), BAD);
        for (int n = 1; n <= 8; n++) {
            StreetCries x = new StreetCries();
            due(5, "up to what leaves n", write(x, DIGITS.substring(0, 60 - n)), 60 - n);
            if (n < 8) {
                due(5, "one too many", x.type(0x3131313131313131L, n + 1), FULL);
            }
            due(5, "the last that go in", x.type(0x3131313131313131L, n), 60);
            due(5, "no room", x.type(0x31L, 1), FULL);
            due(5, "26 digits are no town", x.town(), -45);
            due(5, "room again", x.type(0x31L, 1), 1);
        }
    }

    // ---- promise 6

    static void town() {
        for (int count = 0; count < 25; count++) {
            townFault(DIGITS.substring(0, count), -20 - count);
        }
        townFault(DIGITS.substring(0, 26), -45);
        townFault(DIGITS, -45);
        townFault(DIGITS.substring(0, 25) + BLANKS.substring(0, 34) + "0", -79);
        townFault(DIGITS.substring(0, 24) + BLANKS.substring(0, 36), -80);
        townFault(BLANKS, -80);
        townFault(BLANKS.substring(1) + "x", -79);
        townFault(" ", -21);
        for (char c : "!/:,-+.aA~".toCharArray()) {
            townFault("" + c, -20);
            townFault("  " + c, -22);
            townFault(DIGITS.substring(0, 24) + c, -44);
            townFault(DIGITS.substring(0, 25) + c, -45);
        }
        townFault("12345,12345,12345,12345,12345", -25);
        townIs("0".repeat(25), 0);
        townIs("9".repeat(25), 225);
        townIs(BLANKS.substring(0, 35) + DIGITS.substring(0, 25), 105);
        townIs(DIGITS.substring(0, 25) + BLANKS.substring(0, 35), 105);
        townIs("0 1 2 3 4 5 6 7 8 9 0 1 2 3 4 5 6 7 8 9 0 1 2 3 4", 100);
    }

    static void townFault(String text, int want) {
        keeps(6, "'" + text + "'", NO_TAPE, x -> {
            write(x, text);
            return x.town();
        }, want);
    }

    static void townIs(String text, int want) {
        StreetCries x = new StreetCries();
        write(x, text);
        due(6, "'" + text + "'", x.town(), want);
        String digits = text.replace(" ", "");
        for (int corner = 0; corner < 25; corner++) {
            due(6, "noise " + corner, x.noise(corner, 1), digits.charAt(corner) - '0');
        }
        due(6, "the tape is empty", x.town(), -20);
    }

    // ---- promise 7

    static void round() {
        outside(7, "seller, the tape stays", BUSY, 0, 1, (x, v) -> x.round(v), BAD);
        outside(7, "seller, with a full tape", FULL_TOWN, 0, 5, (x, v) -> x.round(v), BAD);
        keeps(7, "nobody", NOBODY, x -> x.round(0), BAD);
        keeps(7, "ahead of a fault", NO_TAPE, x -> x.round(2), BAD);
        roundFault("", -20);
        roundFault(" ", -21);
        roundFault(BLANKS, -80);
        roundFault("0," + BLANKS.substring(0, 58), -80);
        roundFault(BLANKS.substring(0, 59) + ",", -79);
        roundFault(BLANKS.substring(0, 58) + "0,", -80);
        roundFault(BLANKS.substring(0, 57) + "0 x", -79);
        numbersThatMayNotBe();
        bytesThatCannotStand();
        roundsTooFar();
        roundIs("0", 0);
        roundIs("24", 24);
        roundIs("0".repeat(60), 0);
        roundIs("0".repeat(58) + "24", 24);
        roundIs(BLANKS.substring(0, 29) + "7" + BLANKS.substring(0, 30), 7);
        roundIs(TWELVE, 0, 1, 2, 3, 4, 9, 14, 19, 24, 23, 22, 21);
        roundIs("0,0,0,0,0,0,0,0,0,0,0,0", 0, 0, 0, 0, 0, 0, 0, 0, 0, 0, 0, 0);
        roundIs(" 003 , 02,2 ,  7,12 ", 3, 2, 2, 7, 12);
    }

    static void numbersThatMayNotBe() {
        String[] numbers = {"25", "025", "30", "99", "100", "255", "256", "280", "65536", "2147483648", "4294967296",
            "4294967297", "9223372036854775808", "18446744073709551616", "99999999999999999999999999999999999999999"};
        for (String n : numbers) {
            roundFault(n, -20);
            roundFault("  " + n, -22);
            roundFault("1," + n, -22);
            roundFault(" 1 , " + n + " x", -25);
        }
        roundFault("0".repeat(58) + "25", -20);
        roundFault("0," + "0".repeat(56) + "25", -22);
        roundFault("9".repeat(60), -20);
    }

    static void bytesThatCannotStand() {
        for (char c : "!/:;-+.aA~".toCharArray()) {
            roundFault("" + c, -20);
            roundFault("1" + c, -21);
            roundFault("1 " + c, -22);
            roundFault("1," + c, -22);
            roundFault("1, " + c, -23);
        }
        roundFault(",", -20);
        roundFault(" ,1", -21);
        roundFault("1,", -22);
        roundFault("1, ", -23);
        roundFault("1,,1", -22);
        roundFault("1, ,1", -23);
        roundFault("1 1", -22);
        roundFault("1  1", -23);
        roundFault("2 4", -22);
        roundFault("0,0,0,0,0,0,0,0,0,0,0,0,0", -43);
        roundFault("0,0,0,0,0,0,0,0,0,0,0,0  ,0", -45);
        roundFault("0,0,0,0,0,0,0,0,0,0,0,0,", -43);
        roundFault("0,0,0,0,0,0,0,0,0,0,0,0,99", -43);
        roundFault("0,0,0,0,0,0,0,0,0,0,0,0 0", -44);
        roundFault("0,0,0,0,0,0,0,0,0,0,0,", -42);
        roundFault("0,0,0,0,0,0,0,0,0,0,0,2", -42);
    }

    static void roundsTooFar() {
        int[][] near = {{0, 1}, {1, 0}, {0, 5}, {5, 0}, {12, 7}, {12, 17}, {12, 11}, {12, 13}, {24, 23}, {24, 19}, {12, 12}};
        for (int[] n : near) {
            roundIs(n[0] + "," + n[1], n[0], n[1]);
        }
        int[][] tooFar = {{4, 5}, {5, 4}, {9, 10}, {0, 2}, {0, 6}, {0, 10}, {0, 24}, {12, 6}, {12, 8}, {12, 16}, {12, 18}};
        for (int[] n : tooFar) {
            roundFault(n[0] + "," + n[1], -20 - ("" + n[0]).length() - 1);
            roundFault(n[0] + ", " + n[1] + "x", -20 - ("" + n[0]).length() - 2);
        }
    }

    static void roundFault(String text, int want) {
        keeps(7, "'" + text + "'", NO_TAPE, x -> {
            write(x, text);
            return x.round(0);
        }, want);
    }

    static void roundIs(String text, int... corners) {
        StreetCries x = NO_TAPE.make();
        write(x, text);
        due(7, "'" + text + "'", x.round(1), corners.length);
        due(7, "how many", x.told(1, 0, -1), corners.length);
        for (int i = 0; i < corners.length; i++) {
            due(7, "'" + text + "', corner " + i, x.told(1, 0, i), corners[i]);
        }
        due(7, "no more", x.told(1, 0, corners.length), NONE);
        due(7, "the other's round stays", x.told(0, 0, -1), 3);
        due(7, "the tape is empty", x.round(1), -20);
    }

    // ---- promise 8

    static void tune() {
        outside(8, "seller, the tape stays", BUSY, 0, 1, (x, v) -> x.tune(v), BAD);
        outside(8, "seller, with a full tape", FULL_TOWN, 0, 5, (x, v) -> x.tune(v), BAD);
        keeps(8, "nobody", NOBODY, x -> x.tune(0), BAD);
        keeps(8, "ahead of a fault", NO_TAPE, x -> x.tune(2), BAD);
        tuneFault("", -20);
        tuneFault(" ", -21);
        tuneFault(BLANKS, -80);
        tuneFault(BLANKS.substring(1) + ",", -79);
        tuneFault("1234567", -26);
        tuneFault(DIGITS, -26);
        tuneFault("1 2 3 4 5 6 7", -32);
        tuneFault("123456" + BLANKS.substring(0, 53) + "7", -79);
        tuneFault("1,2", -21);
        for (char c : "!/:,-+.aA~".toCharArray()) {
            tuneFault("" + c, -20);
            tuneFault(" " + c, -21);
            tuneFault("12345" + c, -25);
            tuneFault("123456" + c, -26);
        }
        for (int count = 1; count <= 6; count++) {
            tuneIs(DIGITS.substring(0, count));
            tuneIs("090909".substring(0, count));
        }
        tuneIs(BLANKS.substring(0, 54) + "987654");
        tuneIs("3" + BLANKS.substring(0, 59));
        tuneIs("1 2  3   4    5     6");
    }

    static void tuneFault(String text, int want) {
        keeps(8, "'" + text + "'", NO_TAPE, x -> {
            write(x, text);
            return x.tune(0);
        }, want);
    }

    static void tuneIs(String text) {
        String digits = text.replace(" ", "");
        StreetCries x = NO_TAPE.make();
        write(x, text);
        due(8, "'" + text + "'", x.tune(1), digits.length());
        due(8, "how many", x.told(1, 1, -1), digits.length());
        for (int i = 0; i < digits.length(); i++) {
            due(8, "'" + text + "', note " + i, x.told(1, 1, i), digits.charAt(i) - '0');
        }
        due(8, "no more", x.told(1, 1, digits.length()), NONE);
        due(8, "the other's tune stays", x.told(0, 1, -1), 2);
        due(8, "the tape is empty", x.tune(1), -20);
    }

    // ---- promise 9

    static void told() {
        for (int part = 0; part < 2; part++) {
            int p = part;
            outside(9, "seller, part " + p, BUSY, 0, 1, (x, v) -> x.told(v, p, 0), BAD);
            outside(9, "seller of six, part " + p, FULL_TOWN, 0, 5, (x, v) -> x.told(v, p, -1), BAD);
            keeps(9, "nobody", NOBODY, x -> x.told(0, p, -1), BAD);
            for (int i : new int[] {-2, -3, -256, LEAST, LEAST + 1}) {
                keeps(9, "i " + i, BUSY, x -> x.told(0, p, i), BAD);
            }
            for (int i : new int[] {12, 13, 255, 256, 65536, MOST - 1, MOST}) {
                keeps(9, "i " + i, BUSY, x -> x.told(0, p, i), NONE);
                keeps(9, "i " + i + " where all there is room for is told", FULL_TOWN, x -> x.told(5, p, i), NONE);
                keeps(9, "seller, ahead of NONE", BUSY, x -> x.told(2, p, i), BAD);
            }
        }
        outside(9, "part", BUSY, 0, 1, (x, v) -> x.told(0, v, 0), BAD);
        outside(9, "part, ahead of NONE", BUSY, 0, 1, (x, v) -> x.told(0, v, 12), BAD);
        keeps(9, "the first corner", FULL_TOWN, x -> x.told(5, 0, 0), 0);
        keeps(9, "the last corner there is room for", FULL_TOWN, x -> x.told(5, 0, 11), 21);
        keeps(9, "all corners", FULL_TOWN, x -> x.told(5, 0, -1), 12);
        keeps(9, "the first note", FULL_TOWN, x -> x.told(5, 1, 0), 1);
        keeps(9, "the last note there is room for", FULL_TOWN, x -> x.told(4, 1, 5), 4);
        keeps(9, "all notes", FULL_TOWN, x -> x.told(5, 1, -1), 6);
        keeps(9, "one behind the last note", FULL_TOWN, x -> x.told(5, 1, 6), NONE);
        keeps(9, "the last of three", BUSY, x -> x.told(0, 0, 2), 2);
        keeps(9, "one behind three", BUSY, x -> x.told(0, 0, 3), NONE);
        keeps(9, "the last of two", BUSY, x -> x.told(0, 1, 1), 7);
        keeps(9, "one behind two", BUSY, x -> x.told(0, 1, 2), NONE);
        StreetCries x = FULL_TOWN.make();
        x.town();
        write(x, "7");
        x.round(0);
        write(x, "8");
        x.tune(0);
        for (int i = 1; i < 13; i++) {
            due(9, "a shorter round, corner " + i, x.told(0, 0, i), NONE);
            due(9, "a shorter tune, note " + i, x.told(0, 1, i), NONE);
        }
    }

    // ---- promise 10

    static void where() {
        outside(10, "seller", BUSY, 0, 1, (x, v) -> x.where(v, 3), BAD);
        outside(10, "seller of six", FULL_TOWN, 0, 5, (x, v) -> x.where(v, 60), BAD);
        outside(10, "minute", BUSY, 0, 119, (x, v) -> x.where(0, v), BAD);
        keeps(10, "nobody", NOBODY, x -> x.where(0, 0), BAD);
        keeps(10, "a minute ahead", BUSY, x -> x.where(0, 2), NONE);
        keeps(10, "the first minute", BUSY, x -> x.where(0, 3), 0);
        keeps(10, "the last minute at the first corner", BUSY, x -> x.where(0, 4), 0);
        keeps(10, "the first minute at the second", BUSY, x -> x.where(0, 5), 1);
        keeps(10, "the last minute at the last", BUSY, x -> x.where(0, 8), 2);
        keeps(10, "behind the last", BUSY, x -> x.where(0, 9), NONE);
        keeps(10, "the day's last minute", BUSY, x -> x.where(0, 119), NONE);
        StreetCries x = with(0, 1, 5, TWELVE, "5");
        due(10, "12 corners, 5 minutes each", x.where(0, 59), 21);
        due(10, "behind them", x.where(0, 60), NONE);
        x.of(0, 2, 60);
        due(10, "not yet", x.where(0, 59), NONE);
        due(10, "up to the day's end", x.where(0, 119), 21);
        x.of(0, 2, 65);
        due(10, "the day ends one corner ahead", x.where(0, 119), 22);
        x.of(0, 2, 119);
        due(10, "one minute alone", x.where(0, 119), 0);
        due(10, "the greatest BEGIN", x.where(0, 118), NONE);
        x.of(0, 2, 0);
        x.of(0, 3, 1);
        due(10, "the least of both", x.where(0, 0), 0);
        due(10, "a minute each", x.where(0, 11), 21);
        due(10, "behind a minute each", x.where(0, 12), NONE);
    }

    // ---- promise 11

    static void carries() {
        outside(11, "seller", BUSY, 0, 1, (x, v) -> x.carries(v), BAD);
        outside(11, "seller of six", FULL_TOWN, 0, 5, (x, v) -> x.carries(v), BAD);
        keeps(11, "nobody", NOBODY, x -> x.carries(0), BAD);
        String[] tunes = {"0", "2", "3", "5", "6", "8", "9", "000000", "999999", "32", "33", "65", "999998", "900000"};
        int[] lifts = {0, 0, 1, 1, 2, 2, 3, 0, 3, 0, 1, 1, 2, 0};
        for (int i = 0; i < tunes.length; i++) {
            due(11, "the least LOUD, " + tunes[i], with(0, 1, 1, "0", tunes[i]).carries(0), 1 + lifts[i]);
            due(11, "the greatest LOUD, " + tunes[i], with(0, 9, 1, "0", tunes[i]).carries(0), 9 + lifts[i]);
        }
        for (int loud = 1; loud <= 9; loud++) {
            StreetCries x = with(0, loud, 1, "0", "0");
            x.bylaw(2, true);
            due(11, "4 at most", x.carries(0), loud < 4 ? loud : 4);
            x.bylaw(2, false);
            due(11, "no more in force", x.carries(0), loud);
        }
    }

    // ---- promise 12

    static void heard() {
        outside(12, "corner", BUSY, 0, 24, (x, v) -> x.heard(v, 3), BAD);
        outside(12, "minute", BUSY, 0, 119, (x, v) -> x.heard(0, v), BAD);
        keeps(12, "both", BUSY, x -> x.heard(25, 120), BAD);
        StreetCries x = new StreetCries();
        for (int s = 0; s < 6; s++) {
            x.seller(s % 4, 9, 1);
        }
        due(12, "all six", x.heard(0, 0), 63);
        due(12, "no more", x.heard(0, 1), 0);
        for (int s = 0; s < 6; s++) {
            x.of(s, 2, 119);
        }
        due(12, "not yet", x.heard(0, 118), 0);
        due(12, "in the last minute", x.heard(0, 119), 63);
        due(12, "8 far, and carries 10", x.heard(24, 119), 63);
        x.noise(24, 2);
        due(12, "8 far, and 2 less", x.heard(24, 119), 63);
        x.noise(24, 3);
        due(12, "8 far, and 3 less", x.heard(24, 119), 0);
        StreetCries y = with(0, 1, 1, "12", "0");
        y.noise(12, 1);
        due(12, "0 far, nothing left", y.heard(12, 0), 1);
        y.noise(12, 2);
        due(12, "0 far, below nothing", y.heard(12, 0), 0);
        y.noise(13, 0);
        y.noise(14, 0);
        due(12, "1 far", y.heard(13, 0), 1);
        due(12, "2 far", y.heard(14, 0), 0);
        y.noise(13, 9);
        due(12, "the greatest NOISE", y.heard(13, 0), 0);
    }

    // ---- promise 13

    static void apart() {
        outside(13, "one", BUSY, 0, 1, (x, v) -> x.apart(v, 0), BAD);
        outside(13, "the other", BUSY, 0, 1, (x, v) -> x.apart(0, v), BAD);
        outside(13, "both", FULL_TOWN, 0, 5, (x, v) -> x.apart(v, v), BAD);
        keeps(13, "nobody", NOBODY, x -> x.apart(0, 0), BAD);
        String[][] tunes = {{"0", "0"}, {"0", "9"}, {"0", "999999"}, {"000000", "999999"}, {"9", "000000"},
            {"5", "555555"}, {"12345", "123456"}};
        int[] apart = {0, 9, 29, 54, 29, 20, 4};
        for (int i = 0; i < tunes.length; i++) {
            StreetCries x = with(0, 1, 1, "0", tunes[i][0]);
            come(x, 0, 1, 1, "0", tunes[i][1]);
            due(13, tunes[i][0] + " and " + tunes[i][1], x.apart(0, 1), apart[i]);
            due(13, tunes[i][1] + " and " + tunes[i][0], x.apart(1, 0), apart[i]);
            due(13, "of one alone", x.apart(1, 1), 0);
        }
    }

    // ---- promise 14

    static void likeness() {
        outside(14, "v", BUSY, 0, 20, (x, v) -> x.likeness(v), BAD);
        StreetCries x = new StreetCries();
        due(14, "3 at first", x.likeness(0), 3);
        due(14, "the least", x.likeness(20), 0);
        due(14, "the greatest", x.likeness(3), 20);
        due(14, "0 apart, 0", lured("5", 0), 1);
        due(14, "1 apart, 0", lured("6", 0), 0);
        due(14, "20 apart, 20", lured("555555", 20), 1);
        due(14, "21 apart, 20", lured("655555", 20), 0);
        due(14, "20 apart, 19", lured("555555", 19), 0);
        due(14, "3 apart, at first", lured("8", 3), 1);
        due(14, "4 apart, at first", lured("9", 3), 0);
        StreetCries changed = with(0, 1, 1, "24", "8");
        come(changed, 1, 3, 1, "0", "5");
        changed.buyer(0, 0, 0, 0);
        due(14, "3 apart", changed.fate(0, 2), 1);
        changed.likeness(2);
        due(14, "3 apart, and no more like", changed.fate(0, 2), 0);
    }

    /** How often one comes down for a tune of another kind, 5; the one wanted is sold far off. */
    static int lured(String wanted, int likeness) {
        StreetCries x = with(0, 1, 1, "24", wanted);
        come(x, 1, 3, 1, "0", "5");
        x.buyer(0, 0, 0, 0);
        x.likeness(likeness);
        return x.fate(0, 2);
    }

    // ---- promise 15

    static void bylaw() {
        outside(15, "bylaw, to be in force", BUSY, 0, 3, (x, v) -> x.bylaw(v, true), BAD);
        outside(15, "bylaw, not to be", FULL_TOWN, 0, 3, (x, v) -> x.bylaw(v, false), BAD);
        for (int v : new int[] {31, 32, 33, 34, 35, 64, -32, -29}) {
            keeps(15, "bylaw " + v, BUSY, x -> x.bylaw(v, true), BAD);
            keeps(15, "bylaw " + v, FULL_TOWN, x -> x.bylaw(v, false), BAD);
        }
        for (int b = 0; b < 4; b++) {
            StreetCries x = new StreetCries();
            due(15, "not at first", x.bylaw(b, true), 0);
            due(15, "it was", x.bylaw(b, true), 1);
            due(15, "one", x.count(3), 1);
            due(15, "it was, and is no more", x.bylaw(b, false), 1);
            due(15, "it was not", x.bylaw(b, false), 0);
            due(15, "none", x.count(3), 0);
        }
        evening();
        stillCorners();
        room();
    }

    static void evening() {
        StreetCries x = with(0, 9, 1, "0,0,0", "5");
        x.bylaw(0, true);
        x.of(0, 2, 58);
        due(15, "minute 58", x.heard(0, 58), 1);
        due(15, "minute 59", x.heard(0, 59), 1);
        due(15, "minute 60", x.heard(0, 60), 0);
        due(15, "it is there still", x.where(0, 60), 0);
        x.of(0, 2, 119);
        due(15, "minute 119", x.heard(0, 119), 0);
    }

    static void stillCorners() {
        StreetCries x = with(0, 9, 1, "0,1", "5");
        x.bylaw(1, true);
        x.noise(0, 0);
        due(15, "NOISE 0", x.heard(5, 0), 0);
        due(15, "NOISE 1", x.heard(5, 1), 1);
        due(15, "NOISE 0 where it is HEARD", x.heard(0, 1), 1);
        due(15, "one CRY of two", x.day(2), 1);
    }

    static void room() {
        int[] places = {12, 13, 14, 10, 2, 22, 6, 18, 19, 9, 1, 24, 0};
        int[] far = {0, 1, 2, 2, 2, 2, 2, 2, 3, 3, 3, 4, 4};
        for (int i = 0; i < places.length; i++) {
            StreetCries x = with(2, 9, 1, "12", "9");
            come(x, 2, 9, 1, "" + places[i], "9");
            x.bylaw(3, true);
            due(15, far[i] + " FAR", x.heard(12, 0), far[i] <= 2 ? 1 : 3);
            x.of(1, 2, 1);
            due(15, "the other is nowhere", x.heard(12, 1), 2);
            x.of(1, 2, 0);
            x.of(1, 0, 3);
            due(15, "of another KIND", x.heard(12, 0), 3);
        }
        for (int corner : new int[] {0, 4, 20, 24}) {
            StreetCries x = with(2, 9, 1, "" + corner, "9");
            come(x, 2, 9, 1, "" + corner, "9");
            x.bylaw(3, true);
            due(15, "both at corner " + corner, x.heard(12, 0), 1);
        }
        StreetCries x = with(2, 9, 5, "12", "9");
        come(x, 2, 9, 1, "12,12", "9");
        x.bylaw(3, true);
        x.of(1, 2, 4);
        due(15, "the last minute in which the other is somewhere", x.heard(12, 4), 0);
        due(15, "the first in which it is nowhere", x.heard(12, 5), 2);
    }

    // ---- promise 16

    static void count() {
        outside(16, "what", BUSY, 0, 3, (x, v) -> x.count(v), BAD);
        int[] most = {6, 12, 12, 4};
        int[] some = {2, 2, 2, 2};
        for (int what = 0; what < 4; what++) {
            int w = what;
            keeps(16, "none, what " + w, NOBODY, x -> x.count(w), 0);
            keeps(16, "some, what " + w, BUSY, x -> x.count(w), some[w]);
            keeps(16, "all there is room for, what " + w, FULL_TOWN, x -> x.count(w), most[w]);
        }
    }

    public static void main(String[] args) {
        newObject();
        noise();
        seller();
        of();
        type();
        town();
        round();
        tune();
        told();
        where();
        carries();
        heard();
        apart();
        likeness();
        bylaw();
        count();
        end();
    }
}
