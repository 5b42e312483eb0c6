import java.util.Arrays;

/** Cries in a street, as ../shared/DOC.md tells them. */
public final class StreetCries {
    public static final int BAD = -1, NOT = -2, FULL = -3, NONE = -4, NULL = -11, CAST = -12, INDEX = -13, SIZE = -14;

    private static final int SIDE = 5, CORNERS = 25, MINUTES = 120, LOUDEST_NOISE = 9;
    private static final int SELLERS = 6, KINDS = 4, MOST_LOUD = 9, MOST_PACE = 5, STOPS = 12, NOTES = 6;
    private static final int MOST_NOTE = 9, FIRST_NOTE = 5, NOTE_MISSING = 4, MEAN_BY = 3;
    private static final int BUYERS = 12, MOST_FLOOR = 5, MOST_PATIENCE = 20;
    private static final int WINDOWS = 12, MOST_LIKENESS = 20, FIRST_LIKENESS = 3;
    private static final int BYLAWS = 4, EVENING = 1, STILL_CORNERS = 2, SOFT = 4, ROOM = 8;
    private static final int EVENING_MINUTE = 60, SOFT_REACH = 4, ROOM_FAR = 2;
    private static final int BEST_STEP = 5, BEST_LAST = 55, REST_STEP = 10, REST_CHOICES = 6;
    private static final int FRESH_NOTES = 3, MOST_CARRY = 12, MOST_QUIET = 999;
    private static final int TAPE = 60, WORD = 8, FAULT = -20;
    private static final int SHEETS = 4, LANES = 3, ITEMS = 24, HANDS = 6, YEARS = 5;
    private static final int FINE = 0, BELOW_ZERO_REFUSED = 100000;

    private final Town now;
    private final Town kept;
    private final Trial trial;
    private final Day today;
    private final Tape tape;
    private final Sheet[] sheets;
    /** What a text or a choice of notes is put together in, before it counts. */
    private final int[] draft;
    private boolean hasImage;

    public StreetCries() {
        now = new Town();
        kept = new Town();
        trial = new Trial();
        today = new Day();
        tape = new Tape();
        draft = new int[CORNERS];
        sheets = new Sheet[SHEETS];
        for (int i = 0; i < SHEETS; i++) {
            sheets[i] = new Sheet();
        }
    }

    // ---- 1 the town, sellers

    public int noise(int corner, int v) {
        if (!isCorner(corner) || !isWithin(v, 0, LOUDEST_NOISE)) {
            return BAD;
        }
        int was = now.noises[corner];
        now.noises[corner] = v;
        return was;
    }

    public int seller(int kind, int loud, int pace) {
        if (!isKind(kind) || !isLoud(loud) || !isWithin(pace, 1, MOST_PACE)) {
            return BAD;
        }
        if (now.sellerCount >= SELLERS) {
            return FULL;
        }
        int number = now.sellerCount;
        now.sellers[number].comeAs(kind, loud, pace);
        now.sellerCount = number + 1;
        return number;
    }

    public int of(int seller, int what, int v) {
        return now.hasSeller(seller) ? now.sellers[seller].change(what, v) : BAD;
    }

    public int type(long w, int n) {
        if (!isWithin(n, 1, WORD) || !Tape.isTypable(w, n)) {
            return BAD;
        }
        return tape.append(w, n);
    }

    public int town() {
        int found = tape.readDigits(draft, CORNERS, CORNERS);
        tape.clear();
        if (found < 0) {
            return found;
        }
        int together = 0;
        for (int corner = 0; corner < CORNERS; corner++) {
            now.noises[corner] = draft[corner];
            together += draft[corner];
        }
        return together;
    }

    public int round(int seller) {
        if (!now.hasSeller(seller)) {
            return BAD;
        }
        int found = tape.readRound(draft);
        tape.clear();
        if (found > 0) {
            now.sellers[seller].takeRound(draft, found);
        }
        return found;
    }

    public int tune(int seller) {
        if (!now.hasSeller(seller)) {
            return BAD;
        }
        int found = tape.readDigits(draft, 1, NOTES);
        tape.clear();
        if (found > 0) {
            now.sellers[seller].takeTune(draft, found);
        }
        return found;
    }

    public int told(int seller, int part, int i) {
        if (!now.hasSeller(seller) || !isWithin(part, 0, 1) || i < -1) {
            return BAD;
        }
        Seller one = now.sellers[seller];
        int[] row = part == 0 ? one.corners : one.notes;
        int count = part == 0 ? one.cornerCount : one.noteCount;
        if (i < 0) {
            return count;
        }
        return i < count && i < row.length ? row[i] : NONE;
    }

    public int where(int seller, int minute) {
        if (!now.hasSeller(seller) || !isMinute(minute)) {
            return BAD;
        }
        return now.sellers[seller].placeIn(minute);
    }

    public int carries(int seller) {
        return now.hasSeller(seller) ? now.sellers[seller].reach(now.bylaws) : BAD;
    }

    public int heard(int corner, int minute) {
        if (!isCorner(corner) || !isMinute(minute)) {
            return BAD;
        }
        int set = 0;
        for (int s = 0; s < now.sellerCount; s++) {
            if (now.isHeard(s, corner, minute)) {
                set |= 1 << s;
            }
        }
        return set;
    }

    public int apart(int one, int other) {
        if (!now.hasSeller(one) || !now.hasSeller(other)) {
            return BAD;
        }
        Seller second = now.sellers[other];
        return now.sellers[one].differsFrom(second.notes, second.noteCount);
    }

    public int likeness(int v) {
        if (!isWithin(v, 0, MOST_LIKENESS)) {
            return BAD;
        }
        int was = now.likeness;
        now.likeness = v;
        return was;
    }

    public int bylaw(int bylaw, boolean is) {
        if (!isBylaw(bylaw)) {
            return BAD;
        }
        int bit = 1 << bylaw;
        int was = (now.bylaws & bit) != 0 ? 1 : 0;
        now.bylaws = is ? now.bylaws | bit : now.bylaws & ~bit;
        return was;
    }

    public int count(int what) {
        switch (what) {
            case 0:
                return now.sellerCount;
            case 1:
                return now.buyerCount;
            case 2:
                return now.windowCount;
            case 3:
                return Integer.bitCount(now.bylaws);
            default:
                return BAD;
        }
    }

    // ---- 2 buyers, the day

    public int buyer(int corner, int kind, int floor, int patience) {
        if (!isCorner(corner) || !isKind(kind) || !isWithin(floor, 0, MOST_FLOOR)
                || !isWithin(patience, 0, MOST_PATIENCE)) {
            return BAD;
        }
        if (now.buyerCount >= BUYERS) {
            return FULL;
        }
        int number = now.buyerCount;
        now.buyers[number].comeAs(corner, kind, floor, patience);
        now.buyerCount = number + 1;
        return number;
    }

    public int fate(int buyer, int what) {
        if (!isWithin(buyer, 0, now.buyerCount - 1) || !isWithin(what, 0, 2)) {
            return BAD;
        }
        today.spend(now);
        if (what == 2) {
            return today.wasted[buyer];
        }
        return what == 0 ? today.boughtFrom[buyer] : today.boughtIn[buyer];
    }

    public int brings(int seller) {
        if (!now.hasSeller(seller)) {
            return BAD;
        }
        today.spend(now);
        return today.broughtTo(seller);
    }

    public int day(int what) {
        if (!isWithin(what, 0, 2)) {
            return BAD;
        }
        today.spend(now);
        if (what == 2) {
            return today.cryCount;
        }
        return what == 0 ? today.buyingCount() : today.wastedCount();
    }

    // ---- 3 what would be

    public int best(int seller, int what) {
        if (!now.hasSeller(seller) || !isWithin(what, 0, 2)) {
            return BAD;
        }
        return trial.bestBeginning(now, seller, what);
    }

    public int rests(int one, int other, int what) {
        if (!now.hasSeller(one) || !now.hasSeller(other) || one == other || !isWithin(what, 0, 2)) {
            return BAD;
        }
        trial.tryAllPairs(now, one, other);
        return trial.restsTold(what);
    }

    public int fresh(int n, int loud, int carry, int i) {
        if (!isWithin(n, 1, FRESH_NOTES) || !isLoud(loud) || !isWithin(carry, 0, MOST_CARRY)
                || !isWithin(i, -1, n - 1)) {
            return BAD;
        }
        int rows = rowsOf(n);
        int most = -1;
        int best = 0;
        for (int row = 0; row < rows; row++) {
            draftRow(row, n);
            if (loud + liftOf(draft, n) < carry) {
                continue;
            }
            int distance = distanceToNearest(draft, n);
            if (distance > most) {
                most = distance;
                best = row;
            }
        }
        if (most < 0) {
            return NONE;
        }
        draftRow(best, n);
        return i < 0 ? most : draft[i];
    }

    public int loudness(int corner) {
        return isCorner(corner) ? now.loudnessAt(corner) : BAD;
    }

    public int quiet(int corner, int most) {
        if (!isCorner(corner) || !isWithin(most, 0, MOST_QUIET)) {
            return BAD;
        }
        return trial.fewestBylaws(now, corner, most);
    }

    public int costs(int bylaw, int seller) {
        if (!isBylaw(bylaw) || !now.hasSeller(seller)) {
            return BAD - BELOW_ZERO_REFUSED;
        }
        return trial.costOf(now, bylaw, seller);
    }

    public int window(int corner, int minute, boolean heard) {
        if (!isCorner(corner) || !isMinute(minute)) {
            return BAD;
        }
        if (now.windowCount >= WINDOWS) {
            return FULL;
        }
        now.windows[now.windowCount].note(corner, minute, heard);
        now.windowCount++;
        return now.windowCount;
    }

    public int went(int seller, int what) {
        if (!now.hasSeller(seller) || !isWithin(what, 0, 2)) {
            return BAD;
        }
        return trial.agreeingBeginnings(now, seller, what);
    }

    public int shut() {
        int was = now.windowCount;
        now.windowCount = 0;
        return was;
    }

    public int dies(int seller, int corner) {
        if (!now.hasSeller(seller) || !isCorner(corner)) {
            return BAD;
        }
        return trial.deadlyNoise(now, seller, corner);
    }

    public int clock(int seller, int corner) {
        if (!now.hasSeller(seller) || !isCorner(corner)) {
            return BAD;
        }
        return now.timesHeard(seller, corner);
    }

    public int image() {
        kept.copyFrom(now);
        hasImage = true;
        return 1;
    }

    public int restore() {
        if (!hasImage) {
            return NONE;
        }
        now.copyFrom(kept);
        return 1;
    }

    // ---- 4 sheets

    public int hands(int sheet, int lane, int i, int m, int n, int k) {
        if (!isSheet(sheet) || !isLane(lane) || !isWithin(m, 1, HANDS) || !isWithin(n, 1, NOTES)
                || !isWithin(k, -1, n - 1)) {
            return BAD;
        }
        Sheet rows = sheets[sheet];
        int refused = rows.refusal(lane, i, m * n);
        if (refused != FINE) {
            return refused;
        }
        if (!rows.holdsNotes(i, m, n, 0)) {
            return NOT;
        }
        for (int place = 0; place < n; place++) {
            draft[place] = rows.mostCommon(i + place, m, n);
        }
        return k < 0 ? nearestSeller(draft, n) : draft[k];
    }

    public int came(int sheet, int lane, int i, int m, int n, int k) {
        if (!isSheet(sheet) || !isLane(lane) || !isWithin(m, 1, YEARS) || !isWithin(n, 1, NOTES)
                || !isWithin(k, 0, m - 1)) {
            return BAD;
        }
        Sheet rows = sheets[sheet];
        int refused = rows.refusal(lane, i, m * (n + 1));
        if (refused != FINE) {
            return refused;
        }
        if (!rows.holdsNotes(i, m, n, 1)) {
            return NOT;
        }
        return rows.nearestEarlier(i, m, n, k);
    }

    public int sheet(int sheet, int lane, int n) {
        if (!isSheet(sheet) || !isLane(lane) || n > ITEMS) {
            return BAD;
        }
        if (n < 0) {
            return SIZE;
        }
        sheets[sheet].begin(lane, n);
        return n;
    }

    public int drop(int sheet) {
        if (!isSheet(sheet)) {
            return BAD;
        }
        Sheet row = sheets[sheet];
        if (!row.isThere) {
            return NULL;
        }
        row.isThere = false;
        return row.count;
    }

    public int item(int sheet, int lane, int i, int v) {
        if (!isSheet(sheet) || !isLane(lane)) {
            return BAD;
        }
        Sheet row = sheets[sheet];
        int refused = row.refusal(lane, i, 1);
        if (refused != FINE) {
            return refused;
        }
        row.put(i, v);
        return 1;
    }

    public int copy(int from, int i, int to, int j, int n) {
        if (!isSheet(from) || !isSheet(to)) {
            return BAD;
        }
        Sheet source = sheets[from];
        Sheet target = sheets[to];
        if (!source.isThere || !target.isThere) {
            return NULL;
        }
        if (source.lane != target.lane) {
            return CAST;
        }
        if (!source.hasItems(i, n) || !target.hasItems(j, n)) {
            return INDEX;
        }
        System.arraycopy(source.items, i, target.items, j, n);
        return n;
    }

    private static int rowsOf(int notes) {
        int rows = 1;
        for (int i = 0; i < notes; i++) {
            rows *= MOST_NOTE + 1;
        }
        return rows;
    }

    /** Rows count up as numbers do, so that the first as a row is the least number. */
    private void draftRow(int row, int notes) {
        int rest = row;
        for (int i = notes - 1; i >= 0; i--) {
            draft[i] = rest % (MOST_NOTE + 1);
            rest /= MOST_NOTE + 1;
        }
    }

    /** Without sellers 0, so that the first of all tunes stands. */
    private int distanceToNearest(int[] notes, int count) {
        int nearest = nearestSeller(notes, count);
        return nearest < 0 ? 0 : now.sellers[nearest].differsFrom(notes, count);
    }

    private int nearestSeller(int[] notes, int count) {
        int nearest = NONE;
        int least = 0;
        for (int s = 0; s < now.sellerCount; s++) {
            int distance = now.sellers[s].differsFrom(notes, count);
            if (nearest < 0 || distance < least) {
                nearest = s;
                least = distance;
            }
        }
        return nearest;
    }

    private static boolean isWithin(int v, int least, int most) {
        return v >= least && v <= most;
    }

    private static boolean isCorner(int corner) {
        return corner >= 0 && corner < CORNERS;
    }

    private static boolean isMinute(int minute) {
        return minute >= 0 && minute < MINUTES;
    }

    private static boolean isKind(int kind) {
        return kind >= 0 && kind < KINDS;
    }

    private static boolean isLoud(int loud) {
        return loud >= 1 && loud <= MOST_LOUD;
    }

    private static boolean isBylaw(int bylaw) {
        return bylaw >= 0 && bylaw < BYLAWS;
    }

    private static boolean isSheet(int sheet) {
        return sheet >= 0 && sheet < SHEETS;
    }

    private static boolean isLane(int lane) {
        return lane >= 0 && lane < LANES;
    }

    private static int far(int one, int other) {
        return Math.abs(one / SIDE - other / SIDE) + Math.abs(one % SIDE - other % SIDE);
    }

    /** What a cry carries beyond how loud it is. */
    private static int liftOf(int[] notes, int count) {
        if (count < 1 || count > notes.length) {
            return 0;
        }
        int together = 0;
        for (int i = 0; i < count; i++) {
            together += notes[i];
        }
        return together / count / MEAN_BY;
    }

    private static final class Seller {
        final int[] corners = new int[STOPS];
        final int[] notes = new int[NOTES];
        int cornerCount;
        int noteCount;
        int kind;
        int loud;
        int begin;
        int pace;
        /** Kept with the tune, as it is asked for at every cry. */
        private int lift;

        void comeAs(int itsKind, int itsLoud, int itsPace) {
            kind = itsKind;
            loud = itsLoud;
            pace = itsPace;
            begin = 0;
            corners[0] = 0;
            cornerCount = 1;
            notes[0] = FIRST_NOTE;
            noteCount = 1;
            lift = liftOf(notes, noteCount);
        }

        void copyFrom(Seller other) {
            takeRound(other.corners, other.cornerCount);
            takeTune(other.notes, other.noteCount);
            kind = other.kind;
            loud = other.loud;
            begin = other.begin;
            pace = other.pace;
        }

        int change(int what, int v) {
            int was;
            if (what == 0 && isKind(v)) {
                was = kind;
                kind = v;
            } else if (what == 1 && isLoud(v)) {
                was = loud;
                loud = v;
            } else if (what == 2 && isMinute(v)) {
                was = begin;
                begin = v;
            } else if (what == 3 && isWithin(v, 1, MOST_PACE)) {
                was = pace;
                pace = v;
            } else {
                was = BAD;
            }
            return was;
        }

        void takeRound(int[] row, int count) {
            cornerCount = Math.min(count, Math.min(row.length, STOPS));
            for (int i = 0; i < cornerCount; i++) {
                corners[i] = row[i];
            }
        }

        void takeTune(int[] row, int count) {
            noteCount = Math.min(count, Math.min(row.length, NOTES));
            for (int i = 0; i < noteCount; i++) {
                notes[i] = row[i];
            }
            lift = liftOf(notes, noteCount);
        }

        void turnRound() {
            for (int i = 0, j = cornerCount - 1; i < j; i++, j--) {
                int corner = corners[i];
                corners[i] = corners[j];
                corners[j] = corner;
            }
        }

        /** The corner, or NONE. */
        int placeIn(int minute) {
            int since = minute - begin;
            if (since < 0 || pace < 1) {
                return NONE;
            }
            int stop = since / pace;
            return stop < cornerCount ? corners[stop] : NONE;
        }

        /** Whether this is the first minute at a corner of the round. */
        boolean arrivesIn(int minute) {
            int since = minute - begin;
            return since >= 0 && pace >= 1 && since % pace == 0 && since / pace < cornerCount;
        }

        int reach(int bylaws) {
            int reach = loud + lift;
            return (bylaws & SOFT) != 0 && reach > SOFT_REACH ? SOFT_REACH : reach;
        }

        int differsFrom(int[] row, int count) {
            int both = Math.min(Math.min(count, row.length), noteCount);
            int together = NOTE_MISSING * Math.abs(count - noteCount);
            for (int i = 0; i < both; i++) {
                together += Math.abs(row[i] - notes[i]);
            }
            return together;
        }
    }

    private static final class Buyer {
        int corner;
        int kind;
        int floor;
        int patience;

        void comeAs(int itsCorner, int itsKind, int itsFloor, int itsPatience) {
            corner = itsCorner;
            kind = itsKind;
            floor = itsFloor;
            patience = itsPatience;
        }
    }

    private static final class Window {
        int corner;
        int minute;
        boolean isHeard;

        void note(int itsCorner, int itsMinute, boolean wasHeard) {
            corner = itsCorner;
            minute = itsMinute;
            isHeard = wasHeard;
        }
    }

    /** All that an image keeps. */
    private static final class Town {
        final int[] noises = new int[CORNERS];
        final Seller[] sellers = new Seller[SELLERS];
        final Buyer[] buyers = new Buyer[BUYERS];
        final Window[] windows = new Window[WINDOWS];
        int sellerCount;
        int buyerCount;
        int windowCount;
        int likeness = FIRST_LIKENESS;
        int bylaws;

        Town() {
            Arrays.fill(noises, 1);
            for (int i = 0; i < SELLERS; i++) {
                sellers[i] = new Seller();
            }
            for (int i = 0; i < BUYERS; i++) {
                buyers[i] = new Buyer();
            }
            for (int i = 0; i < WINDOWS; i++) {
                windows[i] = new Window();
            }
        }

        void copyFrom(Town other) {
            System.arraycopy(other.noises, 0, noises, 0, CORNERS);
            sellerCount = other.sellerCount;
            for (int i = 0; i < sellerCount; i++) {
                sellers[i].copyFrom(other.sellers[i]);
            }
            buyerCount = other.buyerCount;
            for (int i = 0; i < buyerCount; i++) {
                Buyer buyer = other.buyers[i];
                buyers[i].comeAs(buyer.corner, buyer.kind, buyer.floor, buyer.patience);
            }
            windowCount = other.windowCount;
            for (int i = 0; i < windowCount; i++) {
                Window window = other.windows[i];
                windows[i].note(window.corner, window.minute, window.isHeard);
            }
            likeness = other.likeness;
            bylaws = other.bylaws;
        }

        boolean hasSeller(int seller) {
            return seller >= 0 && seller < sellerCount;
        }

        boolean criesIn(int s, int minute) {
            if (!isMinute(minute) || !sellers[s].arrivesIn(minute)) {
                return false;
            }
            if ((bylaws & EVENING) != 0 && minute >= EVENING_MINUTE) {
                return false;
            }
            if ((bylaws & STILL_CORNERS) != 0 && isStill(sellers[s].placeIn(minute))) {
                return false;
            }
            return (bylaws & ROOM) == 0 || !isCrowded(s, minute);
        }

        private boolean isStill(int corner) {
            return isCorner(corner) && noises[corner] == 0;
        }

        private boolean isCrowded(int s, int minute) {
            int place = sellers[s].placeIn(minute);
            for (int t = 0; t < s; t++) {
                int other = sellers[t].placeIn(minute);
                if (sellers[t].kind == sellers[s].kind && other >= 0 && far(place, other) <= ROOM_FAR) {
                    return true;
                }
            }
            return false;
        }

        /** Whether a cry of the seller in the minute, if there is one, carries to the corner. */
        boolean carriesTo(int s, int corner, int minute) {
            int place = sellers[s].placeIn(minute);
            return place >= 0 && far(place, corner) <= sellers[s].reach(bylaws) - noises[corner];
        }

        boolean isHeard(int s, int corner, int minute) {
            return criesIn(s, minute) && carriesTo(s, corner, minute);
        }

        /** A seller cries once a minute at the most: cries heard are minutes with a cry heard. */
        int timesHeard(int s, int corner) {
            int times = 0;
            for (int stop = 0; stop < sellers[s].cornerCount; stop++) {
                if (isHeard(s, corner, sellers[s].begin + stop * sellers[s].pace)) {
                    times++;
                }
            }
            return times;
        }

        int loudnessAt(int corner) {
            int cries = 0;
            for (int s = 0; s < sellerCount; s++) {
                cries += timesHeard(s, corner);
            }
            return cries;
        }

        /** The least number of the sellers of the kind at the corner, or NONE. */
        int sellerAt(int corner, int kind, int minute) {
            for (int s = 0; s < sellerCount; s++) {
                if (sellers[s].kind == kind && sellers[s].placeIn(minute) == corner) {
                    return s;
                }
            }
            return NONE;
        }

        boolean agreesWithWindows(int s) {
            for (int i = 0; i < windowCount; i++) {
                Window window = windows[i];
                if (isHeard(s, window.corner, window.minute) != window.isHeard) {
                    return false;
                }
            }
            return true;
        }
    }

    /** What comes of a day in a town; its rows are used again for each day. */
    private static final class Day {
        private static final int UP = -1;

        final int[] boughtFrom = new int[BUYERS];
        final int[] boughtIn = new int[BUYERS];
        final int[] wasted = new int[BUYERS];
        int cryCount;
        private int buyerCount;
        /** For each minute, who cries, as a set. */
        private final int[] criers = new int[MINUTES];
        /** For each kind, whose tunes are taken for one of the kind, as a set. */
        private final int[] luring = new int[KINDS];

        void spend(Town town) {
            gatherCries(town);
            gatherLuring(town);
            buyerCount = town.buyerCount;
            for (int b = 0; b < buyerCount; b++) {
                live(town, town.buyers[b], b);
            }
        }

        private void gatherCries(Town town) {
            Arrays.fill(criers, 0);
            cryCount = 0;
            for (int s = 0; s < town.sellerCount; s++) {
                Seller seller = town.sellers[s];
                for (int stop = 0; stop < seller.cornerCount; stop++) {
                    int minute = seller.begin + stop * seller.pace;
                    if (isMinute(minute) && town.criesIn(s, minute)) {
                        criers[minute] |= 1 << s;
                        cryCount++;
                    }
                }
            }
        }

        private void gatherLuring(Town town) {
            Arrays.fill(luring, 0);
            for (int s = 0; s < town.sellerCount; s++) {
                Seller known = town.sellers[s];
                for (int t = 0; t < town.sellerCount; t++) {
                    if (isKind(known.kind)
                            && town.sellers[t].differsFrom(known.notes, known.noteCount) <= town.likeness) {
                        luring[known.kind] |= 1 << t;
                    }
                }
            }
        }

        /** One buyer's whole day on end: no buyer changes anything for another. */
        private void live(Town town, Buyer buyer, int b) {
            boughtFrom[b] = NONE;
            boughtIn[b] = NONE;
            wasted[b] = 0;
            int lured = isKind(buyer.kind) ? luring[buyer.kind] : 0;
            int downFrom = UP;
            for (int minute = 0; minute < MINUTES; minute++) {
                if (downFrom == UP) {
                    if (hearsOneOf(town, criers[minute] & lured, buyer.corner, minute)) {
                        downFrom = minute + buyer.floor + 1;
                    }
                } else if (minute >= downFrom) {
                    int seller = town.sellerAt(buyer.corner, buyer.kind, minute);
                    if (seller >= 0) {
                        boughtFrom[b] = seller;
                        boughtIn[b] = minute;
                        return;
                    }
                    if (minute - downFrom >= buyer.patience) {
                        wasted[b]++;
                        downFrom = UP;
                    }
                }
            }
        }

        private static boolean hearsOneOf(Town town, int crying, int corner, int minute) {
            if (crying == 0) {
                return false;
            }
            for (int s = 0; s < town.sellerCount; s++) {
                if ((crying & 1 << s) != 0 && town.carriesTo(s, corner, minute)) {
                    return true;
                }
            }
            return false;
        }

        int broughtTo(int seller) {
            int buying = 0;
            for (int b = 0; b < buyerCount; b++) {
                if (boughtFrom[b] == seller) {
                    buying++;
                }
            }
            return buying;
        }

        int buyingCount() {
            int buying = 0;
            for (int b = 0; b < buyerCount; b++) {
                if (boughtFrom[b] >= 0) {
                    buying++;
                }
            }
            return buying;
        }

        int wastedCount() {
            int together = 0;
            for (int b = 0; b < buyerCount; b++) {
                together += wasted[b];
            }
            return together;
        }
    }

    /** What would be: tried in a town of its own, so that the one that is stays as it is. */
    private static final class Trial {
        private final Town town = new Town();
        private final Day day = new Day();
        /** What each of two brings, by the one's beginning and then the other's. */
        private final int[] toOne = new int[REST_CHOICES * REST_CHOICES];
        private final int[] toOther = new int[REST_CHOICES * REST_CHOICES];

        int bestBeginning(Town now, int seller, int what) {
            town.copyFrom(now);
            Seller one = town.sellers[seller];
            int bestMinute = 0;
            int bestWay = 0;
            int most = -1;
            for (int minute = 0; minute <= BEST_LAST; minute += BEST_STEP) {
                one.begin = minute;
                for (int way = 0; way <= 1; way++) {
                    day.spend(town);
                    int brought = day.broughtTo(seller);
                    if (brought > most) {
                        most = brought;
                        bestMinute = minute;
                        bestWay = way;
                    }
                    one.turnRound();
                }
            }
            if (what == 2) {
                return most;
            }
            return what == 0 ? bestMinute : bestWay;
        }

        void tryAllPairs(Town now, int one, int other) {
            town.copyFrom(now);
            for (int pair = 0; pair < REST_CHOICES * REST_CHOICES; pair++) {
                town.sellers[one].begin = REST_STEP * (pair / REST_CHOICES);
                town.sellers[other].begin = REST_STEP * (pair % REST_CHOICES);
                day.spend(town);
                toOne[pair] = day.broughtTo(one);
                toOther[pair] = day.broughtTo(other);
            }
        }

        /** Of the pairs that were tried last. */
        int restsTold(int what) {
            int rests = 0;
            int first = NONE;
            for (int pair = 0; pair < REST_CHOICES * REST_CHOICES; pair++) {
                if (isRest(pair)) {
                    rests++;
                    if (first < 0) {
                        first = pair;
                    }
                }
            }
            if (what == 0) {
                return rests;
            }
            if (first < 0) {
                return NONE;
            }
            return REST_STEP * (what == 1 ? first / REST_CHOICES : first % REST_CHOICES);
        }

        private boolean isRest(int pair) {
            int mine = pair / REST_CHOICES;
            int yours = pair % REST_CHOICES;
            for (int choice = 0; choice < REST_CHOICES; choice++) {
                if (toOne[choice * REST_CHOICES + yours] > toOne[pair]
                        || toOther[mine * REST_CHOICES + choice] > toOther[pair]) {
                    return false;
                }
            }
            return true;
        }

        int fewestBylaws(Town now, int corner, int most) {
            town.copyFrom(now);
            for (int size = 0; size <= BYLAWS; size++) {
                for (int set = 0; set < 1 << BYLAWS; set++) {
                    if (Integer.bitCount(set) == size) {
                        town.bylaws = set;
                        if (town.loudnessAt(corner) <= most) {
                            return set;
                        }
                    }
                }
            }
            return NONE;
        }

        int costOf(Town now, int bylaw, int seller) {
            town.copyFrom(now);
            day.spend(town);
            int asItIs = day.broughtTo(seller);
            town.bylaws |= 1 << bylaw;
            day.spend(town);
            return asItIs - day.broughtTo(seller);
        }

        int agreeingBeginnings(Town now, int seller, int what) {
            town.copyFrom(now);
            town.sellers[0].copyFrom(now.sellers[seller]);
            town.sellerCount = 1;
            int agreeing = 0;
            int first = NONE;
            int last = NONE;
            for (int minute = 0; minute < MINUTES; minute++) {
                town.sellers[0].begin = minute;
                if (town.agreesWithWindows(0)) {
                    agreeing++;
                    first = first < 0 ? minute : first;
                    last = minute;
                }
            }
            if (what == 0) {
                return agreeing;
            }
            return what == 1 ? first : last;
        }

        /** The least noise may be 0 where a bylaw keeps sellers still at corners without noise. */
        int deadlyNoise(Town now, int seller, int corner) {
            town.copyFrom(now);
            for (int noise = 0; noise <= LOUDEST_NOISE; noise++) {
                town.noises[corner] = noise;
                if (town.timesHeard(seller, corner) == 0) {
                    return noise;
                }
            }
            return NONE;
        }
    }

    private static final class Tape {
        private static final int BLANK = 32, LAST_TYPABLE = 126, BYTE_BITS = 8, BYTE_MASK = 255, TEN = 10;

        private final int[] bytes = new int[TAPE];
        private int count;

        static boolean isTypable(long w, int n) {
            for (int i = 0; i < n; i++) {
                int b = byteOf(w, i);
                if (b < BLANK || b > LAST_TYPABLE) {
                    return false;
                }
            }
            return true;
        }

        private static int byteOf(long w, int fromLowest) {
            return (int) (w >>> BYTE_BITS * fromLowest) & BYTE_MASK;
        }

        int append(long w, int n) {
            if (n > TAPE - count) {
                return FULL;
            }
            for (int i = n - 1; i >= 0; i--) {
                bytes[count] = byteOf(w, i);
                count++;
            }
            return count;
        }

        void clear() {
            count = 0;
        }

        /** How many digits there are, or a fault. */
        int readDigits(int[] row, int least, int most) {
            int found = 0;
            for (int i = 0; i < count; i++) {
                if (bytes[i] == BLANK) {
                    continue;
                }
                if (found >= most || found >= row.length || !isDigit(i)) {
                    return FAULT - i;
                }
                row[found] = bytes[i] - '0';
                found++;
            }
            return found < least ? FAULT - count : found;
        }

        /** How many corners there are, or a fault. */
        int readRound(int[] row) {
            int most = Math.min(STOPS, row.length);
            int at = behindBlanks(0);
            for (int found = 0; found < most; found++) {
                if (!isDigit(at)) {
                    return FAULT - at;
                }
                int end = behindDigits(at);
                int corner = numberIn(at, end);
                if (!isCorner(corner) || found > 0 && far(row[found - 1], corner) > 1) {
                    return FAULT - at;
                }
                row[found] = corner;
                at = behindBlanks(end);
                if (at >= count) {
                    return found + 1;
                }
                if (bytes[at] != ',' || found == most - 1) {
                    return FAULT - at;
                }
                at = behindBlanks(at + 1);
            }
            return FAULT - at;
        }

        private boolean isDigit(int i) {
            return i < count && bytes[i] >= '0' && bytes[i] <= '9';
        }

        private int behindBlanks(int from) {
            for (int i = from; i < count; i++) {
                if (bytes[i] != BLANK) {
                    return i;
                }
            }
            return count;
        }

        private int behindDigits(int from) {
            for (int i = from; i < count; i++) {
                if (!isDigit(i)) {
                    return i;
                }
            }
            return count;
        }

        /** Stays at CORNERS for all that is too much, so that no row of digits runs over. */
        private int numberIn(int from, int end) {
            int number = 0;
            for (int i = from; i < end; i++) {
                number = Math.min(CORNERS, TEN * number + bytes[i] - '0');
            }
            return number;
        }
    }

    private static final class Sheet {
        final int[] items = new int[ITEMS];
        boolean isThere;
        int lane;
        int count;

        void begin(int itsLane, int n) {
            Arrays.fill(items, 0);
            isThere = true;
            lane = itsLane;
            count = n;
        }

        boolean hasItems(int i, int n) {
            return i >= 0 && n >= 0 && i <= count && n <= count - i;
        }

        /** What the machine finds where n items from i on are taken as a row of a lane, or FINE. */
        int refusal(int asLane, int i, int n) {
            if (!isThere) {
                return NULL;
            }
            if (lane != asLane) {
                return CAST;
            }
            return hasItems(i, n) ? FINE : INDEX;
        }

        void put(int i, int v) {
            if (lane == 0) {
                items[i] = (byte) v;
            } else if (lane == 1) {
                items[i] = (short) v;
            } else {
                items[i] = v;
            }
        }

        /** Whether m rows of n notes, each behind some other items, hold notes alone. */
        boolean holdsNotes(int i, int m, int n, int ahead) {
            for (int row = 0; row < m; row++) {
                int first = i + row * (ahead + n) + ahead;
                for (int place = 0; place < n; place++) {
                    if (!isWithin(items[first + place], 0, MOST_NOTE)) {
                        return false;
                    }
                }
            }
            return true;
        }

        int mostCommon(int first, int rows, int step) {
            int common = 0;
            int most = 0;
            for (int note = 0; note <= MOST_NOTE; note++) {
                int having = 0;
                for (int row = 0; row < rows; row++) {
                    if (items[first + row * step] == note) {
                        having++;
                    }
                }
                if (having > most) {
                    most = having;
                    common = note;
                }
            }
            return common;
        }

        /** The row of an earlier year nearest to row k, or NONE; a row is a year and n notes. */
        int nearestEarlier(int i, int m, int n, int k) {
            int mine = i + k * (n + 1);
            int nearest = NONE;
            int least = 0;
            for (int row = 0; row < m; row++) {
                int other = i + row * (n + 1);
                if (items[other] >= items[mine]) {
                    continue;
                }
                int distance = differenceOf(mine + 1, other + 1, n);
                if (nearest < 0 || distance < least) {
                    nearest = row;
                    least = distance;
                }
            }
            return nearest;
        }

        private int differenceOf(int one, int other, int n) {
            int together = 0;
            for (int place = 0; place < n; place++) {
                together += Math.abs(items[one + place] - items[other + place]);
            }
            return together;
        }
    }
}
