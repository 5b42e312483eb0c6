import java.util.HashMap;
import java.util.Map;

/** What the tests by promise share: answers that are due, towns made ready, and whether a call left all as it was. */
class Checks {
    static final int BAD = -1, NOT = -2, FULL = -3, NONE = -4, NULL = -11, CAST = -12, INDEX = -13, SIZE = -14;
    static final int LEAST = Integer.MIN_VALUE, MOST = Integer.MAX_VALUE;

    private static int wrong = 0;
    private static int asked = 0;
    private static final Map<Place, String> LOOKS = new HashMap<>();

    /** A way to an object in some state, the same one each time. */
    interface Place {
        StreetCries make();
    }

    interface Call {
        int on(StreetCries x);
    }

    /** A call of which one number is left open. */
    interface OpenCall {
        int on(StreetCries x, int v);
    }

    static final Place NOBODY = StreetCries::new;
    static final Place BUSY = Checks::busyTown;
    static final Place IMAGED = Checks::imagedTown;
    static final Place FULL_TOWN = Checks::fullTown;

    static void check(boolean holds, String otherwise) {
        asked++;
        if (!holds) {
            wrong++;
            System.out.println(otherwise);
        }
    }

    static void due(int promise, String what, long got, long want) {
        check(got == want, "promise " + promise + ": " + what + " answered " + got + ", due is " + want);
    }

    /** An answer that leaves all as it was: a refused one, or one of a call that only asks. */
    static void keeps(int promise, String what, Place place, Call call, int want) {
        becomes(promise, what, place, call, want, place);
    }

    /** An answer behind which all is as it is in another place. */
    static void becomes(int promise, String what, Place place, Call call, int want, Place then) {
        StreetCries x = place.make();
        due(promise, what, call.on(x), want);
        String was = LOOKS.computeIfAbsent(then, p -> look(p.make()));
        String is = look(x);
        check(is.equals(was), "promise " + promise + ": " + what + " left\n" + is + "\ndue is\n" + was);
    }

    /** Numbers next to the allowed ones, the ends of an int, and numbers whose lowest bits alone would be allowed. */
    static void outside(int promise, String what, Place place, int least, int most, OpenCall call, int want) {
        int[] numbers = {least - 1, most + 1, LEAST, LEAST + 1, MOST - 1, MOST, least + 256, most - 256, least + 65536};
        for (int v : numbers) {
            if (v < least || v > most) {
                keeps(promise, what + " " + v, place, x -> call.on(x, v), want);
            }
        }
    }

    static void end() {
        System.out.println(asked + " answers, " + wrong + " wrong");
        if (wrong != 0) {
            System.exit(1);
        }
    }

    static int write(StreetCries x, String text) {
        int count = 0;
        for (int i = 0; i < text.length(); i += 8) {
            String part = text.substring(i, Math.min(i + 8, text.length()));
            long w = 0;
            for (char c : part.toCharArray()) {
                w = w << 8 | c;
            }
            count = x.type(w, part.length());
        }
        return count;
    }

    static StreetCries with(int kind, int loud, int pace, String round, String tune) {
        StreetCries x = new StreetCries();
        come(x, kind, loud, pace, round, tune);
        return x;
    }

    static int come(StreetCries x, int kind, int loud, int pace, String round, String tune) {
        int s = x.seller(kind, loud, pace);
        write(x, round);
        x.round(s);
        write(x, tune);
        x.tune(s);
        return s;
    }

    static void fill(StreetCries x, int sheet, int lane, int... items) {
        x.sheet(sheet, lane, items.length);
        for (int i = 0; i < items.length; i++) {
            x.item(sheet, lane, i, items[i]);
        }
    }

    private static StreetCries earlyTown() {
        StreetCries x = with(1, 4, 2, "0,1,2", "57");
        x.of(0, 2, 3);
        come(x, 0, 6, 3, "12,13", "9");
        x.buyer(2, 1, 1, 3);
        x.buyer(13, 0, 0, 5);
        x.window(1, 5, true);
        x.noise(7, 0);
        x.likeness(6);
        x.bylaw(2, true);
        x.image();
        return x;
    }

    /** Two sellers, two buyers, two windows, an image of an earlier town, three sheets of four, a tape. */
    private static StreetCries busyTown() {
        StreetCries x = earlyTown();
        x.noise(8, 3);
        x.likeness(4);
        x.bylaw(0, true);
        x.of(1, 2, 20);
        x.window(24, 9, false);
        layOutSheets(x);
        return x;
    }

    /** As the image of the busy town has it; sheets and the tape are in no image. */
    private static StreetCries imagedTown() {
        StreetCries x = earlyTown();
        layOutSheets(x);
        return x;
    }

    private static void layOutSheets(StreetCries x) {
        fill(x, 0, 0, 1, 2, 3);
        fill(x, 1, 1, 4, 5, 6, 7);
        fill(x, 2, 2, 8, 9);
        write(x, "12");
    }

    /** All that there is room for: sellers, buyers, windows, bylaws, corners, notes, items, bytes of the tape. */
    private static StreetCries fullTown() {
        StreetCries x = new StreetCries();
        for (int s = 0; s < 6; s++) {
            come(x, s % 4, 9 - s, 1 + s % 5, "0,1,2,3,4,9,14,19,24,23,22,21", "12345" + s);
            x.of(s, 2, 11 * s);
        }
        for (int b = 0; b < 12; b++) {
            x.buyer(2 * b, b % 4, b % 6, 20 - b);
            x.window(b, 119 - b, false);
        }
        for (int bylaw = 0; bylaw < 4; bylaw++) {
            x.bylaw(bylaw, true);
        }
        fill(x, 3, 0, 9, 8, 7, 6, 5, 4, 3, 2, 1, 0, 1, 2, 3, 4, 5, 6, 7, 8, 9, 0, 1, 2, 3, 4);
        write(x, "1234567890,1234567890,1234567890,1234567890,1234567890,12345");
        return x;
    }

    /** All that can be seen of an object, by the last calls that it gets. */
    static String look(StreetCries x) {
        StringBuilder seen = new StringBuilder(lookWithoutImage(x));
        int restored = x.restore();
        seen.append("; restore ").append(restored);
        if (restored == 1) {
            lookAtTown(x, seen);
            emptyTown(x, seen);
        }
        return seen.toString();
    }

    /** A full town and a full image, both looked at, are more than the 512 calls of an object. */
    static String lookWithoutImage(StreetCries x) {
        StringBuilder seen = new StringBuilder();
        lookAtTown(x, seen);
        seen.append("; tape ").append(x.type(0x20L, 1)).append(' ').append(x.tune(0)).append(' ').append(x.town());
        lookAtRow(x, 0, 1, seen);
        lookAtSheets(x, seen);
        emptyTown(x, seen);
        return seen.toString();
    }

    private static void lookAtTown(StreetCries x, StringBuilder seen) {
        for (int what = 0; what < 4; what++) {
            seen.append(' ').append(x.count(what));
        }
        for (int s = 0; s < x.count(0); s++) {
            seen.append("; seller ").append(x.carries(s)).append(' ').append(x.brings(s));
            lookAtRow(x, s, 0, seen);
            lookAtRow(x, s, 1, seen);
            for (int what = 0; what < 3; what++) {
                seen.append(' ').append(x.went(s, what));
            }
        }
        for (int b = 0; b < x.count(1); b++) {
            seen.append("; buyer ").append(x.fate(b, 0)).append(' ').append(x.fate(b, 1)).append(' ').append(x.fate(b, 2));
        }
        seen.append("; day ").append(x.day(0)).append(' ').append(x.day(1)).append(' ').append(x.day(2));
    }

    private static void lookAtRow(StreetCries x, int s, int part, StringBuilder seen) {
        int count = x.told(s, part, -1);
        seen.append(part == 0 ? "; round" : "; tune");
        for (int i = 0; i < count; i++) {
            seen.append(' ').append(x.told(s, part, i));
        }
    }

    private static void lookAtSheets(StreetCries x, StringBuilder seen) {
        for (int sheet = 0; sheet < 4; sheet++) {
            seen.append("; sheet");
            for (int lane = 0; lane < 3; lane++) {
                int first = x.hands(sheet, lane, 0, 1, 1, 0);
                seen.append(' ').append(first);
                for (int i = 1; i < 24 && (first >= 0 || first == NOT); i++) {
                    int item = x.hands(sheet, lane, i, 1, 1, 0);
                    seen.append(' ').append(item);
                    if (item == INDEX) {
                        break;
                    }
                }
            }
            seen.append(" had ").append(x.drop(sheet));
        }
    }

    /** Tells what each thing was by setting it anew. */
    private static void emptyTown(StreetCries x, StringBuilder seen) {
        for (int s = 0; s < x.count(0); s++) {
            seen.append("; was");
            for (int what = 0; what < 4; what++) {
                seen.append(' ').append(x.of(s, what, what % 2));
            }
        }
        seen.append("; bylaws");
        for (int bylaw = 0; bylaw < 4; bylaw++) {
            seen.append(' ').append(x.bylaw(bylaw, false));
        }
        seen.append("; likeness ").append(x.likeness(0)).append("; noises");
        for (int corner = 0; corner < 25; corner++) {
            seen.append(' ').append(x.noise(corner, 0));
        }
        seen.append("; windows ").append(x.shut());
    }
}
