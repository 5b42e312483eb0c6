/** Each promise by itself: answers worked out by hand from the document, edges and wrong inputs. */
public final class PromisesTest extends Checks {

    static void newObject() {
        StreetCries x = new StreetCries();
        for (int c = 0; c < 25; c++) {
            due(1, "noise " + c, x.noise(c, 1), 1);
        }
        for (int what = 0; what < 4; what++) {
            due(1, "count " + what, x.count(what), 0);
            due(1, "drop " + what, x.drop(what), NULL);
            due(1, "bylaw " + what, x.bylaw(what, false), 0);
        }
        due(1, "likeness", x.likeness(3), 3);
        due(1, "restore", x.restore(), NONE);
        due(1, "the tape", x.town(), -20);
        due(1, "day 0", x.day(0), 0);
        due(1, "day 1", x.day(1), 0);
        due(1, "day 2", x.day(2), 0);
        due(1, "shut", x.shut(), 0);
    }

    static void noise() {
        StreetCries x = new StreetCries();
        due(2, "least corner", x.noise(0, 9), 1);
        due(2, "again", x.noise(0, 0), 9);
        due(2, "last corner", x.noise(24, 5), 1);
        int[][] bad = {{-1, 1}, {25, 1}, {0, -1}, {0, 10}, {LEAST, 1}, {MOST, 1}, {24, LEAST}, {24, MOST}};
        for (int[] b : bad) {
            due(2, "bad " + b[0] + " " + b[1], x.noise(b[0], b[1]), BAD);
        }
        due(2, "unchanged 0", x.noise(0, 1), 0);
        due(2, "unchanged 24", x.noise(24, 1), 5);
    }

    static void seller() {
        StreetCries x = new StreetCries();
        int[][] bad = {{-1, 1, 1}, {4, 1, 1}, {0, 0, 1}, {0, 10, 1}, {0, 1, 0}, {0, 1, 6}, {LEAST, 1, 1}, {0, 1, MOST}};
        for (int[] b : bad) {
            due(3, "bad", x.seller(b[0], b[1], b[2]), BAD);
        }
        due(3, "none yet", x.count(0), 0);
        due(3, "0", x.seller(0, 1, 1), 0);
        due(3, "1", x.seller(3, 9, 5), 1);
        for (int i = 2; i < 6; i++) {
            due(3, "" + i, x.seller(1, 2, 3), i);
        }
        due(3, "full", x.seller(0, 1, 1), FULL);
        due(3, "bad ahead of full", x.seller(4, 1, 1), BAD);
        due(3, "count", x.count(0), 6);
        due(3, "kind", x.of(1, 0, 3), 3);
        due(3, "loud", x.of(1, 1, 9), 9);
        due(3, "begin", x.of(1, 2, 0), 0);
        due(3, "pace", x.of(1, 3, 5), 5);
        due(3, "round", x.told(1, 0, -1), 1);
        due(3, "corner", x.told(1, 0, 0), 0);
        due(3, "tune", x.told(1, 1, -1), 1);
        due(3, "note", x.told(1, 1, 0), 5);
    }

    static void of() {
        StreetCries x = with(1, 2, 3, "0", "5");
        int[] was = {1, 2, 0, 3};
        int[] least = {0, 1, 0, 1};
        int[] most = {3, 9, 119, 5};
        for (int what = 0; what < 4; what++) {
            due(4, "below " + what, x.of(0, what, least[what] - 1), BAD);
            due(4, "above " + what, x.of(0, what, most[what] + 1), BAD);
            due(4, "far off " + what, x.of(0, what, MOST), BAD);
            due(4, "what it was " + what, x.of(0, what, most[what]), was[what]);
            due(4, "most " + what, x.of(0, what, least[what]), most[what]);
            due(4, "least " + what, x.of(0, what, was[what]), least[what]);
        }
        due(4, "no such what", x.of(0, 4, 1), BAD);
        due(4, "no such what", x.of(0, -1, 1), BAD);
        due(4, "no such seller", x.of(1, 0, 1), BAD);
        due(4, "no such seller", x.of(-1, 0, 1), BAD);
    }

    static void type() {
        StreetCries x = with(0, 3, 1, "0", "5");
        due(5, "highest first", x.type(0x313233L, 3), 3);
        due(5, "behind the tape", x.type(0x3435L, 2), 5);
        due(5, "tune", x.tune(0), 5);
        for (int i = 0; i < 5; i++) {
            due(5, "note " + i, x.told(0, 1, i), i + 1);
        }
        due(5, "higher bytes count for nothing", x.type(0xFFFFFFFFFFFFFF37L, 1), 1);
        due(5, "7", x.tune(0), 1);
        due(5, "7", x.told(0, 1, 0), 7);
        due(5, "n 0", x.type(0x31L, 0), BAD);
        due(5, "n 9", x.type(0x31L, 9), BAD);
        due(5, "n 9, all bytes fine", x.type(0x3131313131313131L, 9), BAD);
        due(5, "n least", x.type(0x31L, LEAST), BAD);
        due(5, "byte 31", x.type(0x1FL, 1), BAD);
        due(5, "byte 127", x.type(0x7FL, 1), BAD);
        due(5, "byte 0 above", x.type(0x31L, 2), BAD);
        due(5, "byte 177", x.type(0xB1L, 1), BAD);
        due(5, "highest byte", x.type(0xB131313131313131L, 8), BAD);
        due(5, "byte 32", x.type(0x20L, 1), 1);
        due(5, "byte 126", x.type(0x7EL, 1), 2);
        for (int i = 1; i <= 7; i++) {
            due(5, "on", x.type(0x3132333435363738L, 8), 2 + 8 * i);
        }
        due(5, "full", x.type(0x313233L, 3), FULL);
        due(5, "bad ahead of full", x.type(0x310033L, 3), BAD);
        due(5, "to the brim", x.type(0x3132L, 2), 60);
        due(5, "full", x.type(0x31L, 1), FULL);
        due(5, "fault of the tape", x.tune(0), -21);
    }

    static void town() {
        StreetCries x = new StreetCries();
        write(x, " 01234 56789 01234 56789 98765  ");
        due(6, "town", x.town(), 125);
        due(6, "the tape is empty", x.type(0x31L, 1), 1);
        due(6, "fault at the end", x.town(), -21);
        due(6, "the tape is empty by a fault", x.type(0x31L, 1), 1);
        write(x, "11111111111111111111111 ");
        due(6, "24 and a blank", x.town(), -45);
        write(x, "1111111111111111111111111  1");
        due(6, "26, behind blanks", x.town(), -47);
        write(x, "1111111111111111111111111,");
        due(6, "a comma behind", x.town(), -45);
        write(x, "11 a");
        due(6, "a sign", x.town(), -23);
        write(x, "/");
        due(6, "below 0", x.town(), -20);
        write(x, ":");
        due(6, "above 9", x.town(), -20);
        due(6, "nothing", x.town(), -20);
        int[] want = {0, 1, 2, 3, 4, 5, 6, 7, 8, 9, 0, 1, 2, 3, 4, 5, 6, 7, 8, 9, 9, 8, 7, 6, 5};
        for (int c = 0; c < 25; c++) {
            due(6, "noise " + c, x.noise(c, 0), want[c]);
        }
    }

    static void roundText(StreetCries x, String text, int want) {
        write(x, text);
        due(7, "'" + text + "'", x.round(0), want);
        due(7, "the tape is empty then", x.type(0x20L, 1), 1);
        x.town();
    }

    static void round() {
        StreetCries x = with(0, 3, 1, "0", "5");
        roundText(x, "24,23, 18 ,0018", 4);
        int[] want = {24, 23, 18, 18};
        for (int i = 0; i < 4; i++) {
            due(7, "corner " + i, x.told(0, 0, i), want[i]);
        }
        roundText(x, "", -20);
        roundText(x, "   ", -23);
        roundText(x, ",1", -20);
        roundText(x, " 1,", -23);
        roundText(x, " 1, ", -24);
        roundText(x, "1,,2", -22);
        roundText(x, "1 2", -22);
        roundText(x, "1x", -21);
        roundText(x, "1 x", -22);
        roundText(x, "  25x", -22);
        roundText(x, "24,25", -23);
        roundText(x, "0025", -20);
        roundText(x, "1,4294967298", -22);
        roundText(x, "99999999999999999999999999999999999999999999999999999999999", -20);
        roundText(x, "4,5", -22);
        roundText(x, "0,  6", -24);
        roundText(x, "0,2", -22);
        roundText(x, "-1", -20);
        roundText(x, "1;2", -21);
        roundText(x, "0,0,0,0,0,0,0,0,0,0,0,0,0", -43);
        roundText(x, "0,0,0,0,0,0,0,0,0,0,0,0 ,", -44);
        roundText(x, "0,0,0,0,0,0,0,0,0,0,0,0 0", -44);
        due(7, "a fault changes no round", x.told(0, 0, -1), 4);
        due(7, "a fault changes no round", x.told(0, 0, 3), 18);
        roundText(x, "0,1,2,3,4,9,14,19,24,23,22,21", 12);
        due(7, "the last", x.told(0, 0, 11), 21);
        roundText(x, "00000000000000000000000000000000000000000000000000000000024 ", 1);
        due(7, "with 0s ahead", x.told(0, 0, 0), 24);
        write(x, "7");
        due(7, "bad", x.round(1), BAD);
        due(7, "bad", x.round(-1), BAD);
        due(7, "the tape stays", x.round(0), 1);
        due(7, "7", x.told(0, 0, 0), 7);
    }

    static void tune() {
        StreetCries x = with(0, 3, 1, "0", "5");
        write(x, " 0 1 2345 ");
        due(8, "six", x.tune(0), 6);
        due(8, "the tape is empty then", x.tune(0), -20);
        write(x, "0123456");
        due(8, "seven", x.tune(0), -26);
        due(8, "the tape is empty then", x.tune(0), -20);
        write(x, "1,2");
        due(8, "a comma", x.tune(0), -21);
        write(x, "  ");
        due(8, "blanks", x.tune(0), -22);
        due(8, "a fault changes no tune", x.told(0, 1, 5), 5);
        write(x, "9");
        due(8, "bad", x.tune(1), BAD);
        due(8, "bad", x.tune(LEAST), BAD);
        due(8, "the tape stays", x.tune(0), 1);
        due(8, "9", x.told(0, 1, 0), 9);
    }

    static void told() {
        StreetCries x = with(0, 3, 1, "7,8", "123");
        due(9, "corners", x.told(0, 0, -1), 2);
        due(9, "corner 1", x.told(0, 0, 1), 8);
        due(9, "corner 2", x.told(0, 0, 2), NONE);
        due(9, "notes", x.told(0, 1, -1), 3);
        due(9, "note 2", x.told(0, 1, 2), 3);
        due(9, "note 3", x.told(0, 1, 3), NONE);
        due(9, "note, far off", x.told(0, 1, MOST), NONE);
        due(9, "i -2", x.told(0, 0, -2), BAD);
        due(9, "i least", x.told(0, 1, LEAST), BAD);
        due(9, "part 2", x.told(0, 2, 0), BAD);
        due(9, "part -1", x.told(0, -1, 0), BAD);
        due(9, "seller 1", x.told(1, 0, 0), BAD);
        due(9, "seller -1", x.told(-1, 0, 0), BAD);
    }

    static void where() {
        StreetCries x = with(0, 3, 3, "7,8,8", "5");
        x.of(0, 2, 110);
        int[] minutes = {0, 109, 110, 112, 113, 115, 116, 118, 119};
        int[] want = {NONE, NONE, 7, 7, 8, 8, 8, 8, NONE};
        for (int i = 0; i < minutes.length; i++) {
            due(10, "minute " + minutes[i], x.where(0, minutes[i]), want[i]);
        }
        x.of(0, 2, 119);
        due(10, "the last minute", x.where(0, 119), 7);
        due(10, "minute 120", x.where(0, 120), BAD);
        due(10, "minute -1", x.where(0, -1), BAD);
        due(10, "seller", x.where(1, 0), BAD);
        due(10, "seller", x.where(LEAST, 0), BAD);
    }

    static void carries() {
        StreetCries x = with(0, 3, 1, "0", "98");
        due(11, "mean 8 by 3", x.carries(0), 5);
        write(x, "99");
        x.tune(0);
        due(11, "mean 9", x.carries(0), 6);
        write(x, "332");
        x.tune(0);
        due(11, "the mean is cut first", x.carries(0), 3);
        x.of(0, 1, 9);
        due(11, "louder", x.carries(0), 9);
        x.bylaw(2, true);
        due(11, "4 at most", x.carries(0), 4);
        x.of(0, 1, 1);
        due(11, "less than 4", x.carries(0), 1);
        due(11, "seller", x.carries(1), BAD);
        due(11, "seller", x.carries(-1), BAD);
    }

    static void heard() {
        StreetCries x = with(0, 3, 2, "0,1", "5");
        come(x, 1, 3, 1, "2,1", "5");
        due(12, "both", x.heard(0, 0), 3);
        due(12, "3 far, noise 1", x.heard(15, 0), 1);
        due(12, "4 far", x.heard(20, 0), 0);
        x.noise(20, 0);
        due(12, "4 far, noise 0", x.heard(20, 0), 1);
        due(12, "only the first minute at a corner", x.heard(0, 1), 2);
        due(12, "the next corner", x.heard(0, 2), 1);
        due(12, "no more", x.heard(0, 4), 0);
        x.noise(0, 4);
        due(12, "at the corner itself", x.heard(0, 0), 1);
        x.noise(0, 5);
        due(12, "not even there", x.heard(0, 0), 0);
        due(12, "corner", x.heard(25, 0), BAD);
        due(12, "corner", x.heard(-1, 0), BAD);
        due(12, "minute", x.heard(0, 120), BAD);
        due(12, "minute", x.heard(0, -1), BAD);
    }

    static void apart() {
        StreetCries x = with(0, 3, 1, "0", "19");
        come(x, 0, 3, 1, "0", "3456");
        due(13, "two more places", x.apart(0, 1), 2 + 5 + 8);
        due(13, "the other way", x.apart(1, 0), 15);
        due(13, "itself", x.apart(1, 1), 0);
        due(13, "seller", x.apart(0, 2), BAD);
        due(13, "seller", x.apart(2, 0), BAD);
        due(13, "seller", x.apart(-1, 0), BAD);
    }

    static void likeness() {
        StreetCries x = new StreetCries();
        due(14, "3 at first", x.likeness(20), 3);
        due(14, "20", x.likeness(0), 20);
        due(14, "21", x.likeness(21), BAD);
        due(14, "-1", x.likeness(-1), BAD);
        due(14, "unchanged", x.likeness(5), 0);
        StreetCries y = lured(3);
        due(14, "like, 3 apart", y.fate(0, 2), 1);
        y.likeness(2);
        due(14, "not like, 3 apart", y.fate(0, 2), 0);
    }

    /** A buyer who wants kind 0, which is sold far off and late; one of kind 1 cries nearby. */
    static StreetCries lured(int apart) {
        StreetCries x = with(0, 1, 1, "24", "" + (1 + apart));
        x.of(0, 2, 110);
        come(x, 1, 3, 1, "0", "1");
        x.buyer(0, 0, 0, 0);
        return x;
    }

    static void bylaw() {
        StreetCries x = with(0, 9, 1, "0,1,2", "5");
        due(15, "in force", x.bylaw(0, true), 0);
        due(15, "it was", x.bylaw(0, true), 1);
        due(15, "count", x.count(3), 1);
        x.of(0, 2, 58);
        due(15, "minute 59 is not too late", x.heard(0, 59), 1);
        due(15, "minute 60 is", x.heard(0, 60), 0);
        due(15, "no more", x.bylaw(0, false), 1);
        due(15, "it was not", x.bylaw(0, false), 0);
        due(15, "minute 60 again", x.heard(0, 60), 1);
        x.noise(1, 0);
        x.bylaw(1, true);
        due(15, "noise 0 where it cries", x.heard(0, 59), 0);
        due(15, "noise 0 where it is heard", x.heard(1, 58), 1);
        due(15, "cries", x.day(2), 2);
        x.bylaw(1, false);
        x.bylaw(2, true);
        due(15, "3 far", x.heard(15, 58), 1);
        due(15, "4 far", x.heard(20, 58), 0);
        due(15, "bylaw 4", x.bylaw(4, true), BAD);
        due(15, "bylaw -1", x.bylaw(-1, true), BAD);
        due(15, "bylaw 32", x.bylaw(32, true), BAD);
        due(15, "count", x.count(3), 1);
        room();
    }

    static void room() {
        StreetCries x = with(0, 9, 5, "12", "5");
        come(x, 0, 9, 1, "14", "5");
        come(x, 0, 9, 1, "24", "5");
        come(x, 1, 9, 1, "12", "5");
        x.bylaw(3, true);
        due(15, "2 far does not cry, nor who is 2 far from that one", x.heard(12, 0), 1 + 8);
        x.of(1, 2, 4);
        due(15, "also behind the other's cry", x.heard(12, 4), 0);
        x.of(1, 2, 5);
        due(15, "the other is nowhere", x.heard(12, 5), 2);
        x.of(1, 2, 0);
        x.of(2, 2, 0);
        x.of(0, 0, 2);
        due(15, "another kind; 24 and 14 are 2 far", x.heard(12, 0), 1 + 2 + 8);
    }

    static void count() {
        StreetCries x = with(0, 1, 1, "0", "5");
        x.buyer(0, 0, 0, 0);
        x.buyer(0, 0, 0, 0);
        x.window(0, 0, true);
        x.window(0, 0, true);
        x.window(0, 0, true);
        for (int b = 0; b < 4; b++) {
            x.bylaw(b, true);
        }
        for (int what = 0; what < 4; what++) {
            due(16, "what " + what, x.count(what), what + 1);
        }
        due(16, "what 4", x.count(4), BAD);
        due(16, "what -1", x.count(-1), BAD);
    }

    static void buyer() {
        StreetCries x = new StreetCries();
        int[][] bad = {{-1, 0, 0, 0}, {25, 0, 0, 0}, {0, -1, 0, 0}, {0, 4, 0, 0}, {0, 0, -1, 0}, {0, 0, 6, 0},
            {0, 0, 0, -1}, {0, 0, 0, 21}, {LEAST, 0, 0, 0}, {0, 0, 0, MOST}};
        for (int[] b : bad) {
            due(17, "bad", x.buyer(b[0], b[1], b[2], b[3]), BAD);
        }
        due(17, "none yet", x.count(1), 0);
        due(17, "least", x.buyer(0, 0, 0, 0), 0);
        due(17, "most", x.buyer(24, 3, 5, 20), 1);
        for (int i = 2; i < 12; i++) {
            due(17, "" + i, x.buyer(1, 1, 1, 1), i);
        }
        due(17, "full", x.buyer(0, 0, 0, 0), FULL);
        due(17, "bad ahead of full", x.buyer(0, 0, 0, 21), BAD);
        due(17, "count", x.count(1), 12);
    }

    static void fated(StreetCries x, int buyer, int from, int in, int wasted) {
        due(18, buyer + " from", x.fate(buyer, 0), from);
        due(18, buyer + " in", x.fate(buyer, 1), in);
        due(18, buyer + " wasted", x.fate(buyer, 2), wasted);
    }

    static void fate() {
        StreetCries x = with(0, 3, 2, "0,1,2", "5");
        x.buyer(2, 0, 1, 3);
        x.buyer(2, 0, 1, 2);
        x.buyer(2, 0, 1, 1);
        x.buyer(2, 1, 1, 1);
        x.buyer(24, 0, 0, 0);
        x.buyer(0, 0, 0, 0);
        x.buyer(0, 0, 1, 20);
        fated(x, 0, 0, 4, 0);
        fated(x, 1, 0, 4, 0);
        fated(x, 2, NONE, NONE, 2);
        fated(x, 3, NONE, NONE, 0);
        fated(x, 4, NONE, NONE, 0);
        fated(x, 5, 0, 1, 0);
        fated(x, 6, NONE, NONE, 1);
        due(18, "buyer", x.fate(7, 0), BAD);
        due(18, "buyer", x.fate(-1, 0), BAD);
        due(18, "what", x.fate(0, 3), BAD);
        due(18, "what", x.fate(0, -1), BAD);
        StreetCries y = with(0, 3, 1, "0,1,0,1", "5");
        y.buyer(5, 0, 0, 0);
        fated(y, 0, NONE, NONE, 2);
        StreetCries z = with(1, 3, 5, "0", "5");
        come(z, 0, 3, 5, "0", "5");
        come(z, 0, 3, 5, "0", "5");
        z.buyer(0, 0, 0, 0);
        fated(z, 0, 1, 1, 0);
        StreetCries late = with(0, 3, 1, "0", "5");
        late.of(0, 2, 119);
        late.buyer(0, 0, 0, 0);
        fated(late, 0, NONE, NONE, 0);
        late.of(0, 2, 118);
        fated(late, 0, NONE, NONE, 1);
        late.of(0, 3, 2);
        fated(late, 0, 0, 119, 0);
        fated(lured(3), 0, NONE, NONE, 1);
        fated(lured(4), 0, NONE, NONE, 0);
    }

    static StreetCries busy() {
        StreetCries x = with(0, 3, 2, "0,1,2", "5");
        come(x, 0, 3, 2, "0,0", "5");
        x.of(1, 2, 20);
        x.buyer(2, 0, 1, 3);
        x.buyer(2, 0, 1, 1);
        x.buyer(0, 0, 0, 0);
        x.buyer(0, 0, 1, 0);
        x.buyer(24, 0, 0, 0);
        return x;
    }

    static void brings() {
        StreetCries x = busy();
        due(19, "0", x.brings(0), 2);
        due(19, "1", x.brings(1), 1);
        due(19, "seller 2", x.brings(2), BAD);
        due(19, "seller -1", x.brings(-1), BAD);
        due(19, "NONE is no seller", x.brings(NONE), BAD);
    }

    static void day() {
        StreetCries x = busy();
        due(20, "buy", x.day(0), 3);
        due(20, "wasted", x.day(1), 3 + 2);
        due(20, "cries", x.day(2), 5);
        x.of(1, 2, 119);
        due(20, "cries behind the last minute are none", x.day(2), 4);
        due(20, "wasted by the first buyer", lured(3).day(1), 1);
        due(20, "what", x.day(3), BAD);
        due(20, "what", x.day(-1), BAD);
    }

    static void best() {
        StreetCries x = with(0, 3, 1, "0,1,2", "5");
        x.buyer(0, 0, 1, 20);
        x.of(0, 2, 77);
        due(21, "minute", x.best(0, 0), 0);
        due(21, "way", x.best(0, 1), 1);
        due(21, "brings", x.best(0, 2), 1);
        due(21, "nothing has changed", x.where(0, 77), 0);
        due(21, "nothing has changed", x.of(0, 2, 0), 77);
        StreetCries y = with(0, 3, 1, "0", "5");
        come(y, 1, 3, 1, "0", "5");
        y.of(1, 2, 13);
        y.buyer(0, 0, 1, 0);
        due(21, "minute", y.best(0, 0), 15);
        due(21, "way", y.best(0, 1), 0);
        due(21, "brings", y.best(0, 2), 1);
        y.of(1, 2, 53);
        due(21, "the last minute", y.best(0, 0), 55);
        y.of(1, 2, 58);
        due(21, "60 is none", y.best(0, 0), 0);
        due(21, "60 is none", y.best(0, 2), 0);
        due(21, "seller", y.best(2, 0), BAD);
        due(21, "seller", y.best(-1, 0), BAD);
        due(21, "what", y.best(0, 3), BAD);
        due(21, "what", y.best(0, -1), BAD);
    }

    static void rests() {
        StreetCries x = with(0, 3, 1, "0", "5");
        come(x, 1, 3, 1, "0", "5");
        due(22, "without buyers all", x.rests(0, 1, 0), 36);
        due(22, "the first", x.rests(0, 1, 1), 0);
        due(22, "the first", x.rests(0, 1, 2), 0);
        x.buyer(0, 0, 5, 4);
        due(22, "how many", x.rests(0, 1, 0), 11);
        due(22, "the one's", x.rests(0, 1, 1), 0);
        due(22, "the other's", x.rests(0, 1, 2), 50);
        due(22, "how many, turned", x.rests(1, 0, 0), 11);
        due(22, "the one's, turned", x.rests(1, 0, 1), 0);
        due(22, "the other's, turned", x.rests(1, 0, 2), 10);
        due(22, "nothing has changed", x.of(0, 2, 0), 0);
        StreetCries y = with(0, 1, 3, "24,23", "0");
        come(y, 0, 1, 4, "23", "9");
        y.buyer(23, 0, 2, 4);
        due(22, "none", y.rests(0, 1, 0), 0);
        due(22, "none", y.rests(0, 1, 1), NONE);
        due(22, "none", y.rests(0, 1, 2), NONE);
        due(22, "one", y.rests(0, 0, 0), BAD);
        due(22, "seller", y.rests(0, 2, 0), BAD);
        due(22, "seller", y.rests(2, 0, 0), BAD);
        due(22, "seller", y.rests(-1, 0, 0), BAD);
        due(22, "what", y.rests(0, 1, 3), BAD);
        due(22, "what", y.rests(0, 1, -1), BAD);
    }

    static void fresh() {
        StreetCries x = new StreetCries();
        due(23, "without sellers", x.fresh(2, 1, 3, -1), 0);
        due(23, "the first that carries", x.fresh(2, 1, 3, 0), 3);
        due(23, "the first that carries", x.fresh(2, 1, 3, 1), 9);
        come(x, 0, 3, 1, "0", "5");
        due(23, "apart", x.fresh(1, 1, 0, -1), 5);
        due(23, "note", x.fresh(1, 1, 0, 0), 0);
        due(23, "apart, to carry 2", x.fresh(1, 1, 2, -1), 4);
        due(23, "note, to carry 2", x.fresh(1, 1, 2, 0), 9);
        due(23, "three notes", x.fresh(3, 1, 0, -1), 13);
        due(23, "of like ones the first", x.fresh(3, 1, 0, 2), 0);
        come(x, 0, 3, 1, "0", "4");
        due(23, "0 and 9 are like far", x.fresh(1, 1, 0, -1), 4);
        due(23, "the first", x.fresh(1, 1, 0, 0), 0);
        StreetCries y = with(0, 3, 1, "0", "505");
        int[] notes = {0, 9, 0};
        for (int i = 0; i < 3; i++) {
            due(23, "the one that is farthest, note " + i, y.fresh(3, 1, 0, i), notes[i]);
        }
        due(23, "the one that is farthest", y.fresh(3, 1, 0, -1), 19);
        x.bylaw(2, true);
        due(23, "by no bylaw", x.fresh(1, 9, 12, 0), 9);
        due(23, "none", x.fresh(1, 8, 12, 0), NONE);
        due(23, "none", x.fresh(1, 8, 12, -1), NONE);
        int[][] bad = {{0, 1, 0, 0}, {4, 1, 0, 0}, {1, 0, 0, 0}, {1, 10, 0, 0}, {1, 1, -1, 0}, {1, 1, 13, 0},
            {1, 1, 0, 1}, {1, 1, 0, -2}, {3, 1, 0, 3}, {LEAST, 1, 0, 0}, {1, 8, 12, 1}};
        for (int[] b : bad) {
            due(23, "bad", x.fresh(b[0], b[1], b[2], b[3]), BAD);
        }
    }

    static void loudness() {
        StreetCries x = with(0, 3, 1, "0,1,2", "5");
        come(x, 1, 1, 5, "0,0", "5");
        due(24, "at 0", x.loudness(0), 5);
        due(24, "at 4", x.loudness(4), 2);
        due(24, "at 24", x.loudness(24), 0);
        x.of(0, 2, 118);
        due(24, "the day ends", x.loudness(0), 4);
        x.bylaw(0, true);
        due(24, "by a bylaw", x.loudness(0), 2);
        due(24, "corner", x.loudness(25), BAD);
        due(24, "corner", x.loudness(-1), BAD);
    }

    static void quiet() {
        StreetCries x = with(0, 3, 1, "0,1,2", "5");
        x.of(0, 2, 59);
        due(25, "as it is", x.quiet(0, 3), 0);
        due(25, "not in the evening", x.quiet(0, 1), 1);
        due(25, "none", x.quiet(0, 0), NONE);
        x.noise(0, 0);
        x.bylaw(3, true);
        due(25, "two", x.quiet(0, 0), 3);
        due(25, "of like ones the least", x.quiet(0, 2), 1);
        x.of(0, 2, 0);
        due(25, "the one that helps", x.quiet(0, 2), 2);
        x.bylaw(1, true);
        due(25, "in place of those in force", x.quiet(0, 2), 2);
        due(25, "nothing has changed", x.count(3), 2);
        due(25, "999", x.quiet(0, 999), 0);
        StreetCries y = with(0, 3, 1, "0", "5");
        y.of(0, 2, 60);
        come(y, 1, 3, 1, "1", "5");
        y.noise(1, 0);
        come(y, 2, 9, 1, "24", "5");
        come(y, 3, 1, 1, "20", "5");
        come(y, 3, 9, 1, "10", "5");
        due(25, "all four", y.quiet(0, 0), 15);
        due(25, "one may stay", y.quiet(0, 1), 7);
        due(25, "three may stay", y.quiet(0, 3), 1);
        due(25, "1000", x.quiet(0, 1000), BAD);
        due(25, "-1", x.quiet(0, -1), BAD);
        due(25, "corner", x.quiet(25, 0), BAD);
        due(25, "corner", x.quiet(-1, 0), BAD);
    }

    static void costs() {
        StreetCries x = with(0, 2, 3, "0,1", "5");
        x.of(0, 2, 5);
        come(x, 1, 9, 1, "24", "5");
        x.of(1, 2, 4);
        x.buyer(1, 0, 2, 0);
        due(26, "below 0", x.costs(2, 0), -1);
        due(26, "none", x.costs(0, 0), 0);
        due(26, "the other", x.costs(2, 1), 0);
        due(26, "nothing has changed", x.count(3), 0);
        x.bylaw(2, true);
        due(26, "in force", x.costs(2, 0), 0);
        x.of(0, 2, 60);
        due(26, "above 0", x.costs(0, 0), 1);
        x.of(0, 2, 5);
        x.of(1, 2, 61);
        x.bylaw(2, false);
        x.bylaw(0, true);
        x.of(1, 2, 4);
        due(26, "with that one, too", x.costs(2, 0), -1);
        x.of(0, 2, 60);
        due(26, "too, not in place of", x.costs(2, 0), 0);
        due(26, "bylaw", x.costs(4, 0), -100001);
        due(26, "bylaw", x.costs(-1, 0), -100001);
        due(26, "seller", x.costs(0, 2), -100001);
        due(26, "seller", x.costs(0, -1), -100001);
    }

    static void window() {
        StreetCries x = new StreetCries();
        due(27, "corner", x.window(25, 0, true), BAD);
        due(27, "corner", x.window(-1, 0, true), BAD);
        due(27, "minute", x.window(0, 120, false), BAD);
        due(27, "minute", x.window(0, -1, false), BAD);
        due(27, "none yet", x.count(2), 0);
        for (int i = 1; i <= 12; i++) {
            due(27, "" + i, x.window(24, 119, true), i);
        }
        due(27, "full", x.window(0, 0, true), FULL);
        due(27, "bad ahead of full", x.window(0, 120, true), BAD);
        due(27, "count", x.count(2), 12);
    }

    static void wentAs(StreetCries x, int seller, int many, int first, int last) {
        due(28, "how many", x.went(seller, 0), many);
        due(28, "the first", x.went(seller, 1), first);
        due(28, "the last", x.went(seller, 2), last);
    }

    static void went() {
        StreetCries x = with(0, 3, 2, "0,1,2", "5");
        wentAs(x, 0, 120, 0, 119);
        x.window(0, 7, true);
        wentAs(x, 0, 3, 3, 7);
        x.window(0, 5, false);
        wentAs(x, 0, 1, 7, 7);
        due(28, "nothing has changed", x.of(0, 2, 9), 0);
        come(x, 0, 3, 2, "0,1,2", "5");
        x.bylaw(3, true);
        x.of(1, 2, 9);
        wentAs(x, 1, 1, 7, 7);
        x.window(24, 7, true);
        wentAs(x, 0, 0, NONE, NONE);
        x.shut();
        x.window(0, 60, true);
        wentAs(x, 0, 3, 56, 60);
        x.bylaw(0, true);
        wentAs(x, 0, 0, NONE, NONE);
        due(28, "seller", x.went(2, 0), BAD);
        due(28, "seller", x.went(-1, 0), BAD);
        due(28, "what", x.went(0, 3), BAD);
        due(28, "what", x.went(0, -1), BAD);
    }

    static void shut() {
        StreetCries x = with(0, 3, 2, "0", "5");
        due(29, "none", x.shut(), 0);
        x.window(0, 1, true);
        x.window(0, 2, true);
        due(29, "two", x.shut(), 2);
        due(29, "none again", x.count(2), 0);
        due(29, "all agree", x.went(0, 0), 120);
        due(29, "from the first on", x.window(0, 3, true), 1);
        due(29, "the new one alone", x.went(0, 1), 3);
    }

    static void dies() {
        StreetCries x = with(0, 3, 2, "0", "5");
        due(30, "where it is", x.dies(0, 0), 5);
        due(30, "2 far", x.dies(0, 2), 3);
        due(30, "8 far", x.dies(0, 24), 0);
        due(30, "nothing has changed", x.noise(0, 1), 1);
        x.bylaw(1, true);
        due(30, "by a bylaw at noise 0 already", x.dies(0, 0), 0);
        x.bylaw(1, false);
        x.bylaw(0, true);
        x.of(0, 2, 60);
        due(30, "no cry at all", x.dies(0, 0), 0);
        x.bylaw(0, false);
        x.of(0, 1, 7);
        due(30, "9", x.dies(0, 0), 9);
        x.of(0, 1, 8);
        due(30, "by none", x.dies(0, 0), NONE);
        due(30, "seller", x.dies(1, 0), BAD);
        due(30, "seller", x.dies(-1, 0), BAD);
        due(30, "corner", x.dies(0, 25), BAD);
        due(30, "corner", x.dies(0, -1), BAD);
    }

    static void clock() {
        StreetCries x = with(0, 3, 2, "0,1,2", "5");
        come(x, 0, 3, 2, "0", "5");
        due(31, "at 0", x.clock(0, 0), 3);
        due(31, "at 4", x.clock(0, 4), 2);
        due(31, "the other", x.clock(1, 0), 1);
        x.bylaw(3, true);
        due(31, "by a bylaw", x.clock(1, 0), 0);
        x.of(0, 2, 116);
        due(31, "the day ends", x.clock(0, 0), 2);
        due(31, "seller", x.clock(2, 0), BAD);
        due(31, "seller", x.clock(-1, 0), BAD);
        due(31, "corner", x.clock(0, 25), BAD);
        due(31, "corner", x.clock(0, -1), BAD);
    }

    static void image() {
        StreetCries x = with(1, 3, 2, "0,1,2", "57");
        x.buyer(2, 1, 1, 3);
        x.noise(7, 8);
        x.likeness(6);
        x.bylaw(1, true);
        x.window(1, 4, true);
        x.of(0, 2, 3);
        x.sheet(0, 2, 3);
        write(x, "4");
        due(32, "image", x.image(), 1);
        due(32, "the tape stays", x.type(0x35L, 1), 2);
        due(32, "sheets stay", x.item(0, 2, 2, 9), 1);
        x.tune(0);
        x.round(0);
        write(x, "9");
        x.round(0);
        x.of(0, 0, 2);
        x.of(0, 1, 9);
        x.of(0, 2, 50);
        x.of(0, 3, 5);
        come(x, 3, 3, 3, "8,9", "12");
        x.of(1, 2, 7);
        x.buyer(3, 3, 3, 3);
        x.noise(7, 0);
        x.likeness(1);
        x.bylaw(1, false);
        x.bylaw(2, true);
        x.shut();
        x.window(20, 110, true);
        x.sheet(1, 0, 5);
        write(x, "12");
        for (int again = 0; again < 2; again++) {
            due(33, "restore", x.restore(), 1);
            restored(x);
        }
        due(33, "sheets stay as they are", x.drop(1), 5);
        due(33, "sheets stay as they are", x.drop(0), 3);
        due(33, "the tape stays as it is", x.tune(0), 2);
        due(33, "12", x.told(0, 1, 1), 2);
        due(32, "a new image", x.image(), 1);
        x.likeness(19);
        due(33, "restore", x.restore(), 1);
        due(33, "the newest", x.told(0, 1, 1), 2);
        due(33, "nothing kept", new StreetCries().restore(), NONE);
    }

    /** Leaves each thing changed, so that a second restore has something to do. */
    static void restored(StreetCries x) {
        due(33, "kind", x.of(0, 0, 0), 1);
        due(33, "loud", x.of(0, 1, 8), 3);
        due(33, "begin", x.of(0, 2, 1), 3);
        due(33, "pace", x.of(0, 3, 1), 2);
        due(33, "corners", x.told(0, 0, -1), 3);
        due(33, "corner", x.told(0, 0, 2), 2);
        due(33, "notes", x.told(0, 1, -1), 2);
        due(33, "note", x.told(0, 1, 1), 7);
        due(33, "sellers", x.count(0), 1);
        due(33, "buyers", x.count(1), 1);
        due(33, "windows", x.count(2), 1);
        due(33, "bylaws", x.count(3), 1);
        due(33, "bylaw 1", x.bylaw(1, false), 1);
        due(33, "noise", x.noise(7, 2), 8);
        due(33, "likeness", x.likeness(0), 6);
        due(33, "the window's corner and minute", x.window(0, 0, false), 2);
        due(33, "a seller anew", x.seller(2, 2, 2), 1);
        due(33, "with a tune of its own", x.told(1, 1, 0), 5);
        due(33, "with a round of its own", x.told(1, 0, 0), 0);
        due(33, "begins anew", x.of(1, 2, 9), 0);
    }

    /** All places taken: what a call reads stays within them, and nobody is left out. */
    static void fullTown() {
        StreetCries x = new StreetCries();
        for (int s = 0; s < 6; s++) {
            come(x, s % 2, 3, 1, "0,0,0,0,0,0,0,0,0,0,0,0", "555555");
            x.of(s, 2, 12 * s % 60);
        }
        for (int b = 0; b < 12; b++) {
            x.buyer(0, b % 2, b < 11 ? 1 : 0, 0);
            x.window(0, b, b % 3 == 0);
        }
        due(12, "heard", x.heard(0, 0), 33);
        due(18, "the last buyer's minute", x.fate(11, 1), 1);
        due(19, "of 0", x.brings(0), 6);
        due(19, "of 1", x.brings(1), 0);
        due(19, "of 5", x.brings(5), 6);
        due(20, "buy", x.day(0), 12);
        due(20, "wasted", x.day(1), 0);
        due(20, "cries", x.day(2), 72);
        due(21, "best", x.best(5, 2), 6);
        due(22, "rests: 5 at 0 or 10, 4 anywhere", x.rests(4, 5, 0), 12);
        due(23, "fresh", x.fresh(3, 9, 0, -1), 27);
        due(24, "loudness", x.loudness(0), 72);
        due(25, "quiet", x.quiet(0, 72), 0);
        due(25, "no bylaw helps", x.quiet(0, 71), NONE);
        due(26, "costs", x.costs(0, 5), 0);
        due(28, "went", x.went(5, 0), 0);
        due(30, "dies", x.dies(5, 0), 5);
        due(31, "clock", x.clock(5, 0), 12);
        due(32, "image", x.image(), 1);
        due(33, "restore", x.restore(), 1);
        due(33, "day", x.day(0), 12);
        x.sheet(0, 0, 24);
        due(34, "joined", x.hands(0, 0, 0, 4, 6, 5), 0);
        due(34, "whose", x.hands(0, 0, 0, 4, 6, -1), 0);
        due(35, "came", x.came(0, 0, 0, 4, 5, 3), NONE);
    }

    /** Those who went by a restore are not seen again. */
    static void nobodyIsLeftBehind() {
        StreetCries x = with(1, 9, 1, "24", "9");
        x.image();
        come(x, 0, 9, 5, "0,1", "0");
        x.buyer(0, 0, 0, 5);
        x.window(0, 100, true);
        x.restore();
        due(33, "heard", x.heard(0, 0), 1);
        due(33, "cries", x.day(2), 1);
        due(33, "loudness", x.loudness(0), 1);
        due(33, "went", x.went(0, 0), 120);
        x.buyer(0, 0, 0, 5);
        due(33, "who wants what nobody sells", x.fate(0, 0), NONE);
        due(33, "nor comes down", x.fate(0, 2), 0);
    }

    static void hands() {
        StreetCries x = new StreetCries();
        fill(x, 0, 0, 7, 1, 2, 1, 3, 4, 3, 4, 3);
        due(34, "joined 0", x.hands(0, 0, 1, 4, 2, 0), 1);
        due(34, "joined 1", x.hands(0, 0, 1, 4, 2, 1), 3);
        due(34, "of like ones the least", x.hands(0, 0, 1, 2, 2, 1), 2);
        due(34, "one row", x.hands(0, 0, 0, 1, 6, 0), 7);
        due(34, "none", x.hands(0, 0, 1, 4, 2, -1), NONE);
        come(x, 0, 1, 1, "0", "33");
        come(x, 0, 1, 1, "0", "14");
        come(x, 0, 1, 1, "0", "13");
        come(x, 0, 1, 1, "0", "13");
        due(34, "whose, of like ones the least", x.hands(0, 0, 1, 4, 2, -1), 2);
        due(34, "another length", x.hands(0, 0, 1, 1, 1, -1), 1);
        due(34, "sheet", x.hands(4, 0, 0, 1, 1, 0), BAD);
        due(34, "sheet", x.hands(-1, 0, 0, 1, 1, 0), BAD);
        due(34, "lane", x.hands(0, 3, 0, 1, 1, 0), BAD);
        due(34, "lane", x.hands(0, -1, 0, 1, 1, 0), BAD);
        due(34, "m", x.hands(0, 0, 0, 0, 1, 0), BAD);
        due(34, "m", x.hands(0, 0, 0, 7, 1, 0), BAD);
        due(34, "n", x.hands(0, 0, 0, 1, 0, -1), BAD);
        due(34, "n", x.hands(0, 0, 0, 1, 7, 0), BAD);
        due(34, "k", x.hands(0, 0, 0, 1, 2, 2), BAD);
        due(34, "k", x.hands(0, 0, 0, 1, 2, -2), BAD);
        due(34, "bad ahead of null", x.hands(1, 0, 0, 1, 2, 2), BAD);
        due(34, "null", x.hands(1, 1, -1, 1, 1, 0), NULL);
        due(34, "cast ahead of index", x.hands(0, 1, -1, 1, 1, 0), CAST);
        due(34, "index below", x.hands(0, 0, -1, 1, 1, 0), INDEX);
        due(34, "index above", x.hands(0, 0, 2, 4, 2, 0), INDEX);
        due(34, "index far off", x.hands(0, 0, MOST, 6, 6, 0), INDEX);
        due(34, "index far below", x.hands(0, 0, LEAST, 6, 6, 0), INDEX);
        x.item(0, 0, 0, -1);
        due(34, "not at 0", x.hands(0, 0, 0, 1, 2, 1), NOT);
        due(34, "index ahead of not", x.hands(0, 0, 0, 5, 2, 1), INDEX);
        due(34, "behind it", x.hands(0, 0, 1, 1, 2, 1), 2);
        x.item(0, 0, 8, 10);
        due(34, "not at the last", x.hands(0, 0, 1, 4, 2, 0), NOT);
        due(34, "not ahead of none", notAheadOfNone(), NOT);
    }

    static int notAheadOfNone() {
        StreetCries x = new StreetCries();
        fill(x, 3, 2, 10);
        return x.hands(3, 2, 0, 1, 1, -1);
    }

    static void came() {
        StreetCries x = new StreetCries();
        fill(x, 1, 2, 99, MOST, 5, 5, LEAST, 9, 9, 0, 5, 6, 0, 6, 5, -1, 0, 0);
        int[] want = {2, NONE, 1, 1, 1};
        for (int k = 0; k < 5; k++) {
            due(35, "row " + k, x.came(1, 2, 1, 5, 2, k), want[k]);
        }
        due(35, "sheet", x.came(4, 2, 0, 1, 1, 0), BAD);
        due(35, "sheet", x.came(-1, 2, 0, 1, 1, 0), BAD);
        due(35, "lane", x.came(1, 3, 0, 1, 1, 0), BAD);
        due(35, "lane", x.came(1, -1, 0, 1, 1, 0), BAD);
        due(35, "m", x.came(1, 2, 0, 0, 1, 0), BAD);
        due(35, "m", x.came(1, 2, 0, 6, 1, 0), BAD);
        due(35, "n", x.came(1, 2, 0, 1, 0, 0), BAD);
        due(35, "n", x.came(1, 2, 0, 1, 7, 0), BAD);
        due(35, "k", x.came(1, 2, 0, 1, 1, 1), BAD);
        due(35, "k", x.came(1, 2, 0, 1, 1, -1), BAD);
        due(35, "null", x.came(0, 2, -1, 1, 1, 0), NULL);
        due(35, "cast", x.came(1, 1, -1, 1, 1, 0), CAST);
        due(35, "index", x.came(1, 2, -1, 1, 1, 0), INDEX);
        due(35, "index", x.came(1, 2, 2, 5, 2, 0), INDEX);
        due(35, "index", x.came(1, 2, 0, 5, 6, 0), INDEX);
        due(35, "index", x.came(1, 2, MOST, 5, 6, 0), INDEX);
        due(35, "a year where a note should be", x.came(1, 2, 0, 1, 1, 0), NOT);
        x.item(1, 2, 15, 10);
        due(35, "not, in another row", x.came(1, 2, 1, 5, 2, 0), NOT);
        due(35, "not, ahead of none", x.came(1, 2, 1, 5, 2, 1), NOT);
        due(35, "without that row", x.came(1, 2, 1, 4, 2, 0), 2);
        fill(x, 2, 0, 100, 1, 200, 1);
        due(35, "bytes have a sign", x.came(2, 0, 0, 2, 1, 0), 1);
        due(35, "bytes have a sign", x.came(2, 0, 0, 2, 1, 1), NONE);
    }

    static void sheet() {
        StreetCries x = new StreetCries();
        for (int lane = 0; lane < 3; lane++) {
            due(36, "lane " + lane, x.sheet(3, lane, 24), 24);
            due(36, "all 0", x.hands(3, lane, 0, 4, 6, 5), 0);
            x.item(3, lane, 23, 9);
        }
        due(36, "a new row", x.sheet(3, 2, 24), 24);
        due(36, "all 0", x.hands(3, 2, 23, 1, 1, 0), 0);
        due(36, "no items", x.sheet(0, 0, 0), 0);
        due(36, "no item", x.item(0, 0, 0, 0), INDEX);
        due(36, "no items", x.drop(0), 0);
        due(36, "n 25", x.sheet(3, 0, 25), BAD);
        due(36, "n -1", x.sheet(3, 0, -1), SIZE);
        due(36, "n least", x.sheet(3, 0, LEAST), SIZE);
        due(36, "bad ahead of size", x.sheet(3, 3, -1), BAD);
        due(36, "bad ahead of size", x.sheet(4, 0, -1), BAD);
        due(36, "sheet", x.sheet(-1, 0, 1), BAD);
        due(36, "lane", x.sheet(3, -1, 1), BAD);
        due(36, "unchanged", x.item(3, 2, 23, 1), 1);
    }

    static void drop() {
        StreetCries x = new StreetCries();
        x.sheet(2, 1, 7);
        due(37, "seven", x.drop(2), 7);
        due(37, "nothing", x.drop(2), NULL);
        due(37, "never", x.drop(0), NULL);
        due(37, "sheet", x.drop(4), BAD);
        due(37, "sheet", x.drop(-1), BAD);
        due(37, "it holds nothing", x.item(2, 1, 0, 0), NULL);
    }

    static void item() {
        StreetCries x = new StreetCries();
        x.sheet(0, 0, 2);
        x.sheet(1, 1, 2);
        x.sheet(2, 2, 2);
        for (int lane = 0; lane < 3; lane++) {
            due(38, "set", x.item(lane, lane, 1, 65536 * 3 + 7), 1);
        }
        due(38, "byte", x.hands(0, 0, 1, 1, 1, 0), 7);
        due(38, "short", x.hands(1, 1, 1, 1, 1, 0), 7);
        due(38, "int", x.hands(2, 2, 1, 1, 1, 0), NOT);
        for (int lane = 0; lane < 2; lane++) {
            due(38, "set", x.item(lane, lane, 1, 256 + 5), 1);
        }
        due(38, "byte", x.hands(0, 0, 1, 1, 1, 0), 5);
        due(38, "short", x.hands(1, 1, 1, 1, 1, 0), NOT);
        due(38, "sheet", x.item(4, 0, 0, 0), BAD);
        due(38, "sheet", x.item(-1, 0, 0, 0), BAD);
        due(38, "lane", x.item(0, 3, 0, 0), BAD);
        due(38, "lane ahead of null", x.item(3, -1, 0, 0), BAD);
        due(38, "null", x.item(3, 0, -1, 0), NULL);
        due(38, "cast", x.item(0, 1, -1, 0), CAST);
        due(38, "index", x.item(0, 0, -1, 0), INDEX);
        due(38, "index", x.item(0, 0, 2, 0), INDEX);
        due(38, "index", x.item(0, 0, MOST, 0), INDEX);
        due(38, "index", x.item(0, 0, LEAST, 0), INDEX);
    }

    static void holds(StreetCries x, int sheet, int lane, int... items) {
        for (int i = 0; i < items.length; i++) {
            due(39, "item " + i, x.hands(sheet, lane, i, 1, 1, 0), items[i]);
        }
    }

    static void copy() {
        StreetCries x = new StreetCries();
        fill(x, 0, 0, 1, 2, 3, 4, 5);
        fill(x, 1, 0, 9, 9, 9);
        fill(x, 2, 1, 7, 7, 7);
        due(39, "up", x.copy(0, 0, 0, 1, 4), 4);
        holds(x, 0, 0, 1, 1, 2, 3, 4);
        due(39, "down", x.copy(0, 2, 0, 0, 3), 3);
        holds(x, 0, 0, 2, 3, 4, 3, 4);
        due(39, "to another", x.copy(0, 1, 1, 1, 2), 2);
        holds(x, 1, 0, 9, 3, 4);
        due(39, "none", x.copy(0, 5, 1, 3, 0), 0);
        due(39, "none, i above", x.copy(0, 6, 1, 0, 0), INDEX);
        due(39, "none, j above", x.copy(0, 0, 1, 4, 0), INDEX);
        due(39, "none, i below", x.copy(0, -1, 1, 0, 0), INDEX);
        due(39, "none, j below", x.copy(0, 0, 1, -1, 0), INDEX);
        due(39, "n below", x.copy(0, 0, 1, 0, -1), INDEX);
        due(39, "n least", x.copy(0, 0, 1, 0, LEAST), INDEX);
        due(39, "too many here", x.copy(1, 1, 0, 0, 3), INDEX);
        due(39, "too many there", x.copy(0, 0, 1, 1, 3), INDEX);
        due(39, "far off", x.copy(0, MOST, 1, 0, MOST), INDEX);
        due(39, "far off", x.copy(0, 1, 1, 1, MOST), INDEX);
        due(39, "cast ahead of index", x.copy(0, -1, 2, 0, 1), CAST);
        due(39, "null ahead of cast", x.copy(0, 0, 3, 0, 1), NULL);
        due(39, "null", x.copy(3, 0, 0, -1, 1), NULL);
        due(39, "null, itself", x.copy(3, 0, 3, 0, 0), NULL);
        due(39, "bad ahead of null", x.copy(3, 0, 4, 0, 1), BAD);
        due(39, "bad", x.copy(-1, 0, 0, 0, 1), BAD);
        holds(x, 0, 0, 2, 3, 4, 3, 4);
        holds(x, 1, 0, 9, 3, 4);
        holds(x, 2, 1, 7, 7, 7);
    }

    public static void main(String[] args) {
        newObject();
        noise();
        seller();
        of();
        type();
        town();
        round();
        tune();
        told();
        where();
        carries();
        heard();
        apart();
        likeness();
        bylaw();
        count();
        buyer();
        fate();
        brings();
        day();
        best();
        rests();
        fresh();
        loudness();
        quiet();
        costs();
        window();
        went();
        shut();
        dies();
        clock();
        image();
        fullTown();
        nobodyIsLeftBehind();
        hands();
        came();
        sheet();
        drop();
        item();
        copy();
        end();
    }
}
