import java.util.ArrayList;
import java.util.Arrays;
import java.util.List;
import java.util.Random;
import java.util.TreeSet;
import java.util.regex.Matcher;
import java.util.regex.Pattern;

/**
 * Long runs of calls, ordinary and wild ones, each answer against a slow model that is written
 * from the document alone and shares nothing with the program.
 */
public final class ModelTest {
    static final int BAD = -1, NOT = -2, FULL = -3, NONE = -4, NULL = -11, CAST = -12, INDEX = -13, SIZE = -14;

    static final class S {
        int kind, loud, pace, begin;
        List<Integer> tune = new ArrayList<>(List.of(5));
        List<Integer> round = new ArrayList<>(List.of(0));

        S dup() {
            S o = new S();
            o.kind = kind;
            o.loud = loud;
            o.pace = pace;
            o.begin = begin;
            o.tune = new ArrayList<>(tune);
            o.round = new ArrayList<>(round);
            return o;
        }
    }

    static final class World {
        int[] noise = new int[25];
        List<S> sellers = new ArrayList<>();
        List<int[]> buyers = new ArrayList<>();
        List<int[]> windows = new ArrayList<>();
        TreeSet<Integer> laws = new TreeSet<>();
        int likeness = 3;

        World() {
            Arrays.fill(noise, 1);
        }

        World dup() {
            World o = new World();
            o.noise = noise.clone();
            for (S s : sellers) {
                o.sellers.add(s.dup());
            }
            o.buyers.addAll(buyers);
            o.windows.addAll(windows);
            o.laws.addAll(laws);
            o.likeness = likeness;
            return o;
        }

        /** For each minute the corner, or -1, walked out minute by minute. */
        int[] walk(S s) {
            int[] at = new int[120];
            Arrays.fill(at, -1);
            int m = s.begin;
            for (int c : s.round) {
                for (int k = 0; k < s.pace; k++, m++) {
                    if (m < 120) {
                        at[m] = c;
                    }
                }
            }
            return at;
        }

        static int dist(int a, int b) {
            int ra = 0, rb = 0;
            while (a >= 5) {
                a -= 5;
                ra++;
            }
            while (b >= 5) {
                b -= 5;
                rb++;
            }
            return Math.abs(ra - rb) + Math.abs(a - b);
        }

        static int carry(int loud, List<Integer> tune) {
            int sum = 0;
            for (int n : tune) {
                sum += n;
            }
            int mean = sum / tune.size();
            return loud + mean / 3;
        }

        int carry(S s) {
            int c = carry(s.loud, s.tune);
            return laws.contains(2) ? Math.min(4, c) : c;
        }

        static int apart(List<Integer> a, List<Integer> b) {
            int d = 0;
            for (int i = 0; i < Math.max(a.size(), b.size()); i++) {
                d += i < a.size() && i < b.size() ? Math.abs(a.get(i) - b.get(i)) : 4;
            }
            return d;
        }

        /** All cries of the day: seller, corner, minute. */
        List<int[]> cries() {
            List<int[]> all = new ArrayList<>();
            for (int i = 0; i < sellers.size(); i++) {
                S s = sellers.get(i);
                int m = s.begin;
                for (int c : s.round) {
                    if (m < 120 && allowed(i, c, m)) {
                        all.add(new int[] {i, c, m});
                    }
                    m += s.pace;
                }
            }
            return all;
        }

        boolean allowed(int i, int c, int m) {
            if (laws.contains(0) && m > 59) {
                return false;
            }
            if (laws.contains(1) && noise[c] == 0) {
                return false;
            }
            if (laws.contains(3)) {
                for (int j = 0; j < i; j++) {
                    int w = walk(sellers.get(j))[m];
                    if (w != -1 && sellers.get(j).kind == sellers.get(i).kind && dist(w, c) < 3) {
                        return false;
                    }
                }
            }
            return true;
        }

        List<int[]> heardAt(int corner) {
            List<int[]> h = new ArrayList<>();
            for (int[] cry : cries()) {
                if (dist(cry[1], corner) <= carry(sellers.get(cry[0])) - noise[corner]) {
                    h.add(cry);
                }
            }
            return h;
        }

        /** Each buyer's seller, minute (NONE both) and how often wasted. */
        int[][] fates() {
            int nb = buyers.size();
            int[][] f = new int[nb][];
            int[] arrival = new int[nb];
            int[] mode = new int[nb]; // 0 up, 1 on the way, 2 down, 3 bought
            int[] waited = new int[nb];
            List<int[]> walks = new ArrayList<>();
            for (S s : sellers) {
                walks.add(walk(s));
            }
            List<List<int[]>> hears = new ArrayList<>();
            for (int b = 0; b < nb; b++) {
                f[b] = new int[] {NONE, NONE, 0};
                hears.add(heardAt(buyers.get(b)[0]));
            }
            for (int m = 0; m < 120; m++) {
                int[] before = mode.clone();
                for (int b = 0; b < nb; b++) {
                    if (mode[b] == 1 && arrival[b] == m) {
                        mode[b] = 2;
                        waited[b] = 0;
                    }
                    if (mode[b] == 2) {
                        int from = -1;
                        for (int s = sellers.size() - 1; s >= 0; s--) {
                            if (sellers.get(s).kind == buyers.get(b)[1] && walks.get(s)[m] == buyers.get(b)[0]) {
                                from = s;
                            }
                        }
                        if (from != -1) {
                            mode[b] = 3;
                            f[b][0] = from;
                            f[b][1] = m;
                        } else if (waited[b] == buyers.get(b)[3]) {
                            mode[b] = 0;
                            f[b][2]++;
                        } else {
                            waited[b]++;
                        }
                    }
                }
                for (int b = 0; b < nb; b++) {
                    if (before[b] == 0 && lured(hears.get(b), buyers.get(b)[1], m)) {
                        mode[b] = 1;
                        arrival[b] = m + buyers.get(b)[2] + 1;
                    }
                }
            }
            return f;
        }

        boolean lured(List<int[]> hears, int kind, int m) {
            for (int[] cry : hears) {
                if (cry[2] == m) {
                    for (S s : sellers) {
                        if (s.kind == kind && apart(s.tune, sellers.get(cry[0]).tune) <= likeness) {
                            return true;
                        }
                    }
                }
            }
            return false;
        }

        int brings(int s) {
            int n = 0;
            for (int[] f : fates()) {
                n += f[0] == s ? 1 : 0;
            }
            return n;
        }
    }

    World w = new World();
    World img = null;
    String tape = "";
    int[] lanes = {-1, -1, -1, -1};
    int[][] rows = new int[4][];

    static boolean in(int v, int lo, int hi) {
        return lo <= v && v <= hi;
    }

    boolean sel(int s) {
        return in(s, 0, w.sellers.size() - 1);
    }

    int noise(int c, int v) {
        if (!in(c, 0, 24) || !in(v, 0, 9)) {
            return BAD;
        }
        int o = w.noise[c];
        w.noise[c] = v;
        return o;
    }

    int seller(int k, int l, int p) {
        if (!in(k, 0, 3) || !in(l, 1, 9) || !in(p, 1, 5)) {
            return BAD;
        }
        if (w.sellers.size() == 6) {
            return FULL;
        }
        S s = new S();
        s.kind = k;
        s.loud = l;
        s.pace = p;
        w.sellers.add(s);
        return w.sellers.size() - 1;
    }

    int of(int i, int what, int v) {
        if (!sel(i) || !in(what, 0, 3)) {
            return BAD;
        }
        int[] lo = {0, 1, 0, 1};
        int[] hi = {3, 9, 119, 5};
        if (!in(v, lo[what], hi[what])) {
            return BAD;
        }
        S s = w.sellers.get(i);
        int[] old = {s.kind, s.loud, s.begin, s.pace};
        switch (what) {
            case 0 -> s.kind = v;
            case 1 -> s.loud = v;
            case 2 -> s.begin = v;
            default -> s.pace = v;
        }
        return old[what];
    }

    int type(long x, int n) {
        if (!in(n, 1, 8)) {
            return BAD;
        }
        StringBuilder b = new StringBuilder();
        for (int i = 0; i < n; i++) {
            int c = (int) ((x >> (8 * i)) & 255);
            if (c < 32 || c > 126) {
                return BAD;
            }
            b.append((char) c);
        }
        if (tape.length() + n > 60) {
            return FULL;
        }
        tape += b.reverse();
        return tape.length();
    }

    static int digits(String t, int lo, int hi, List<Integer> out) {
        for (int i = 0; i < t.length(); i++) {
            char c = t.charAt(i);
            if (c == ' ') {
                continue;
            }
            if ("0123456789".indexOf(c) < 0 || out.size() == hi) {
                return -20 - i;
            }
            out.add(c - '0');
        }
        return out.size() < lo ? -20 - t.length() : out.size();
    }

    int town() {
        List<Integer> d = new ArrayList<>();
        int r = digits(tape, 25, 25, d);
        tape = "";
        if (r < 0) {
            return r;
        }
        int sum = 0;
        for (int i = 0; i < 25; i++) {
            w.noise[i] = d.get(i);
            sum += d.get(i);
        }
        return sum;
    }

    static final Pattern NUMBER = Pattern.compile("\\G *([0-9]+) *(,|$)?");

    static int roundOf(String t, List<Integer> out) {
        Matcher m = NUMBER.matcher(t);
        while (true) {
            int from = out.isEmpty() ? 0 : m.end();
            int first = from;
            while (first < t.length() && t.charAt(first) == ' ') {
                first++;
            }
            if (!m.find()) {
                return -20 - first;
            }
            String digits = m.group(1).replaceFirst("^0+(?=.)", "");
            int v = digits.length() > 2 ? 99 : Integer.parseInt(digits);
            if (v > 24 || !out.isEmpty() && World.dist(out.get(out.size() - 1), v) > 1) {
                return -20 - m.start(1);
            }
            out.add(v);
            if (m.group(2) == null) {
                return -20 - m.end();
            }
            if (m.group(2).isEmpty()) {
                return out.size();
            }
            if (out.size() == 12) {
                return -20 - m.start(2);
            }
        }
    }

    int round(int i) {
        if (!sel(i)) {
            return BAD;
        }
        List<Integer> d = new ArrayList<>();
        int r = roundOf(tape, d);
        tape = "";
        if (r > 0) {
            w.sellers.get(i).round = d;
        }
        return r;
    }

    int tune(int i) {
        if (!sel(i)) {
            return BAD;
        }
        List<Integer> d = new ArrayList<>();
        int r = digits(tape, 1, 6, d);
        tape = "";
        if (r > 0) {
            w.sellers.get(i).tune = d;
        }
        return r;
    }

    int told(int s, int part, int i) {
        if (!sel(s) || !in(part, 0, 1) || i < -1) {
            return BAD;
        }
        List<Integer> l = part == 0 ? w.sellers.get(s).round : w.sellers.get(s).tune;
        return i == -1 ? l.size() : i < l.size() ? l.get(i) : NONE;
    }

    int where(int s, int m) {
        if (!sel(s) || !in(m, 0, 119)) {
            return BAD;
        }
        int c = w.walk(w.sellers.get(s))[m];
        return c == -1 ? NONE : c;
    }

    int carries(int s) {
        return sel(s) ? w.carry(w.sellers.get(s)) : BAD;
    }

    int heard(int c, int m) {
        if (!in(c, 0, 24) || !in(m, 0, 119)) {
            return BAD;
        }
        int set = 0;
        for (int[] cry : w.heardAt(c)) {
            set |= cry[2] == m ? 1 << cry[0] : 0;
        }
        return set;
    }

    int apart(int a, int b) {
        return sel(a) && sel(b) ? World.apart(w.sellers.get(a).tune, w.sellers.get(b).tune) : BAD;
    }

    int likeness(int v) {
        if (!in(v, 0, 20)) {
            return BAD;
        }
        int o = w.likeness;
        w.likeness = v;
        return o;
    }

    int bylaw(int b, boolean is) {
        if (!in(b, 0, 3)) {
            return BAD;
        }
        int o = w.laws.contains(b) ? 1 : 0;
        if (is) {
            w.laws.add(b);
        } else {
            w.laws.remove(b);
        }
        return o;
    }

    int count(int what) {
        return !in(what, 0, 3) ? BAD
                : new int[] {w.sellers.size(), w.buyers.size(), w.windows.size(), w.laws.size()}[what];
    }

    int buyer(int c, int k, int f, int p) {
        if (!in(c, 0, 24) || !in(k, 0, 3) || !in(f, 0, 5) || !in(p, 0, 20)) {
            return BAD;
        }
        if (w.buyers.size() == 12) {
            return FULL;
        }
        w.buyers.add(new int[] {c, k, f, p});
        return w.buyers.size() - 1;
    }

    int fate(int b, int what) {
        return in(b, 0, w.buyers.size() - 1) && in(what, 0, 2) ? w.fates()[b][what] : BAD;
    }

    int brings(int s) {
        return sel(s) ? w.brings(s) : BAD;
    }

    int day(int what) {
        if (!in(what, 0, 2)) {
            return BAD;
        }
        if (what == 2) {
            return w.cries().size();
        }
        int n = 0;
        for (int[] f : w.fates()) {
            n += what == 1 ? f[2] : f[0] == NONE ? 0 : 1;
        }
        return n;
    }

    int best(int s, int what) {
        if (!sel(s) || !in(what, 0, 2)) {
            return BAD;
        }
        int[] best = null;
        for (int m = 0; m < 60; m += 5) {
            for (int way = 0; way < 2; way++) {
                World t = w.dup();
                t.sellers.get(s).begin = m;
                if (way == 1) {
                    java.util.Collections.reverse(t.sellers.get(s).round);
                }
                int b = t.brings(s);
                if (best == null || b > best[2]) {
                    best = new int[] {m, way, b};
                }
            }
        }
        return best[what];
    }

    int rests(int a, int b, int what) {
        if (!sel(a) || !sel(b) || a == b || !in(what, 0, 2)) {
            return BAD;
        }
        int[][][] br = new int[6][6][2];
        for (int x = 0; x < 6; x++) {
            for (int y = 0; y < 6; y++) {
                World t = w.dup();
                t.sellers.get(a).begin = 10 * x;
                t.sellers.get(b).begin = 10 * y;
                br[x][y] = new int[] {t.brings(a), t.brings(b)};
            }
        }
        List<int[]> found = new ArrayList<>();
        for (int x = 0; x < 6; x++) {
            for (int y = 0; y < 6; y++) {
                boolean ok = true;
                for (int z = 0; z < 6; z++) {
                    ok &= br[z][y][0] <= br[x][y][0] && br[x][z][1] <= br[x][y][1];
                }
                if (ok) {
                    found.add(new int[] {10 * x, 10 * y});
                }
            }
        }
        return what == 0 ? found.size() : found.isEmpty() ? NONE : found.get(0)[what - 1];
    }

    int fresh(int n, int loud, int carry, int i) {
        if (!in(n, 1, 3) || !in(loud, 1, 9) || !in(carry, 0, 12) || !in(i, -1, n - 1)) {
            return BAD;
        }
        List<Integer> best = null;
        int bestD = 0;
        int all = n == 1 ? 10 : n == 2 ? 100 : 1000;
        for (int r = 0; r < all; r++) {
            List<Integer> t = new ArrayList<>();
            for (char c : String.format("%0" + n + "d", r).toCharArray()) {
                t.add(c - '0');
            }
            if (World.carry(loud, t) >= carry) {
                int near = w.sellers.isEmpty() ? 0 : 9999;
                for (S s : w.sellers) {
                    near = Math.min(near, World.apart(s.tune, t));
                }
                if (best == null || near > bestD) {
                    best = t;
                    bestD = near;
                }
            }
        }
        return best == null ? NONE : i == -1 ? bestD : best.get(i);
    }

    int loudness(int c) {
        return in(c, 0, 24) ? w.heardAt(c).size() : BAD;
    }

    int quiet(int c, int most) {
        if (!in(c, 0, 24) || !in(most, 0, 999)) {
            return BAD;
        }
        int best = NONE;
        int bestN = 99;
        for (int set = 0; set < 16; set++) {
            World t = w.dup();
            t.laws.clear();
            for (int b = 0; b < 4; b++) {
                if ((set >> b) % 2 == 1) {
                    t.laws.add(b);
                }
            }
            if (t.heardAt(c).size() <= most && t.laws.size() < bestN) {
                best = set;
                bestN = t.laws.size();
            }
        }
        return best;
    }

    int costs(int b, int s) {
        if (!in(b, 0, 3) || !sel(s)) {
            return -100001;
        }
        World t = w.dup();
        t.laws.add(b);
        return w.brings(s) - t.brings(s);
    }

    int window(int c, int m, boolean h) {
        if (!in(c, 0, 24) || !in(m, 0, 119)) {
            return BAD;
        }
        if (w.windows.size() == 12) {
            return FULL;
        }
        w.windows.add(new int[] {c, m, h ? 1 : 0});
        return w.windows.size();
    }

    int went(int s, int what) {
        if (!sel(s) || !in(what, 0, 2)) {
            return BAD;
        }
        TreeSet<Integer> ok = new TreeSet<>();
        for (int b = 0; b < 120; b++) {
            World t = w.dup();
            S only = t.sellers.get(s);
            only.begin = b;
            t.sellers.clear();
            t.sellers.add(only);
            boolean agree = true;
            for (int[] win : t.windows) {
                int h = 0;
                for (int[] cry : t.heardAt(win[0])) {
                    h |= cry[2] == win[1] ? 1 : 0;
                }
                agree &= h == win[2];
            }
            if (agree) {
                ok.add(b);
            }
        }
        return what == 0 ? ok.size() : ok.isEmpty() ? NONE : what == 1 ? ok.first() : ok.last();
    }

    int shut() {
        int n = w.windows.size();
        w.windows.clear();
        return n;
    }

    int clockIn(World t, int s, int c) {
        TreeSet<Integer> minutes = new TreeSet<>();
        for (int[] cry : t.heardAt(c)) {
            if (cry[0] == s) {
                minutes.add(cry[2]);
            }
        }
        return minutes.size();
    }

    int dies(int s, int c) {
        if (!sel(s) || !in(c, 0, 24)) {
            return BAD;
        }
        for (int v = 0; v < 10; v++) {
            World t = w.dup();
            t.noise[c] = v;
            if (clockIn(t, s, c) == 0) {
                return v;
            }
        }
        return NONE;
    }

    int clock(int s, int c) {
        return sel(s) && in(c, 0, 24) ? clockIn(w, s, c) : BAD;
    }

    int image() {
        img = w.dup();
        return 1;
    }

    int restore() {
        if (img == null) {
            return NONE;
        }
        w = img.dup();
        return 1;
    }

    int machine(int sh, int lane, int i, int n) {
        if (rows[sh] == null) {
            return NULL;
        }
        if (lanes[sh] != lane) {
            return CAST;
        }
        return i < 0 || (long) i + n > rows[sh].length ? INDEX : 0;
    }

    int hands(int sh, int lane, int i, int m, int n, int k) {
        if (!in(sh, 0, 3) || !in(lane, 0, 2) || !in(m, 1, 6) || !in(n, 1, 6) || !in(k, -1, n - 1)) {
            return BAD;
        }
        int r = machine(sh, lane, i, m * n);
        if (r != 0) {
            return r;
        }
        int[][] votes = new int[n][10];
        for (int x = 0; x < m * n; x++) {
            int v = rows[sh][i + x];
            if (!in(v, 0, 9)) {
                return NOT;
            }
            votes[x % n][v]++;
        }
        List<Integer> joined = new ArrayList<>();
        for (int p = 0; p < n; p++) {
            int b = 9;
            for (int v = 9; v >= 0; v--) {
                b = votes[p][v] >= votes[p][b] ? v : b;
            }
            joined.add(b);
        }
        if (k >= 0) {
            return joined.get(k);
        }
        int whose = NONE;
        int d = 9999;
        for (int s = 0; s < w.sellers.size(); s++) {
            int a = World.apart(joined, w.sellers.get(s).tune);
            if (a < d) {
                d = a;
                whose = s;
            }
        }
        return whose;
    }

    int came(int sh, int lane, int i, int m, int n, int k) {
        if (!in(sh, 0, 3) || !in(lane, 0, 2) || !in(m, 1, 5) || !in(n, 1, 6) || !in(k, 0, m - 1)) {
            return BAD;
        }
        int r = machine(sh, lane, i, m * n + m);
        if (r != 0) {
            return r;
        }
        List<List<Integer>> notes = new ArrayList<>();
        int[] years = new int[m];
        int at = i;
        for (int x = 0; x < m; x++) {
            years[x] = rows[sh][at++];
            List<Integer> l = new ArrayList<>();
            for (int y = 0; y < n; y++) {
                int v = rows[sh][at++];
                if (!in(v, 0, 9)) {
                    return NOT;
                }
                l.add(v);
            }
            notes.add(l);
        }
        int from = NONE;
        int d = 9999;
        for (int x = 0; x < m; x++) {
            int a = World.apart(notes.get(x), notes.get(k));
            if (years[x] < years[k] && a < d) {
                d = a;
                from = x;
            }
        }
        return from;
    }

    int sheet(int sh, int lane, int n) {
        if (!in(sh, 0, 3) || !in(lane, 0, 2) || n > 24) {
            return BAD;
        }
        if (n < 0) {
            return SIZE;
        }
        rows[sh] = new int[n];
        lanes[sh] = lane;
        return n;
    }

    int drop(int sh) {
        if (!in(sh, 0, 3)) {
            return BAD;
        }
        if (rows[sh] == null) {
            return NULL;
        }
        int n = rows[sh].length;
        rows[sh] = null;
        return n;
    }

    int item(int sh, int lane, int i, int v) {
        if (!in(sh, 0, 3) || !in(lane, 0, 2)) {
            return BAD;
        }
        int r = machine(sh, lane, i, 1);
        if (r != 0) {
            return r;
        }
        int bits = new int[] {24, 16, 0}[lane];
        rows[sh][i] = v << bits >> bits;
        return 1;
    }

    int copy(int f, int i, int t, int j, int n) {
        if (!in(f, 0, 3) || !in(t, 0, 3)) {
            return BAD;
        }
        if (rows[f] == null || rows[t] == null) {
            return NULL;
        }
        if (lanes[f] != lanes[t]) {
            return CAST;
        }
        if (n < 0 || i < 0 || j < 0 || (long) i + n > rows[f].length || (long) j + n > rows[t].length) {
            return INDEX;
        }
        int[] taken = Arrays.copyOfRange(rows[f], i, i + n);
        for (int x = 0; x < n; x++) {
            rows[t][j + x] = taken[x];
        }
        return n;
    }

    // ---- the runs

    static Random rnd;
    static int wrong = 0;
    static long calls = 0;
    StreetCries x = new StreetCries();
    int run;
    List<String> log = new ArrayList<>();
    java.util.Map<String, Integer> answered;

    ModelTest(int run, java.util.Map<String, Integer> answered) {
        this.run = run;
        this.answered = answered;
    }

    void due(String name, String args, int got, int want) {
        calls++;
        answered.merge(name + (want < 0 ? want < -19 && want > -100 ? " FAULT" : " " + want : " fine"), 1, Integer::sum);
        log.add(name + "(" + args + ") = " + got);
        if (got != want) {
            wrong++;
            if (wrong <= 5) {
                System.out.println("run " + run + ": " + log);
                System.out.println("run " + run + ": " + name + "(" + args + ") answered " + got + ", due is " + want);
            }
        }
    }

    static int wild() {
        int[] odd = {Integer.MIN_VALUE, Integer.MAX_VALUE, -1, -2, -3, 1000, 25, 24, 120, 119, 10, 6, 7, 4, 3, 13, 21, 61,
            Integer.MIN_VALUE + 1, Integer.MAX_VALUE - 1, 65536, -129, 300};
        return odd[rnd.nextInt(odd.length)];
    }

    static int val(int lo, int hi) {
        int r = rnd.nextInt(60);
        if (r == 0) {
            return wild();
        }
        if (r == 1) {
            return rnd.nextBoolean() ? lo - 1 : hi + 1;
        }
        if (hi < lo) {
            return lo;
        }
        return lo + rnd.nextInt(Math.min(hi, 1000) - lo + 1);
    }

    void typeText(String t) {
        for (int i = 0; i < t.length(); i += 8) {
            String part = t.substring(i, Math.min(t.length(), i + 8));
            long v = rnd.nextLong();
            for (char c : part.toCharArray()) {
                v = v << 8 | c;
            }
            due("type", v + ", " + part.length(), x.type(v, part.length()), type(v, part.length()));
        }
    }

    static String mutate(String t) {
        StringBuilder b = new StringBuilder(t);
        int n = rnd.nextInt(4) == 0 ? 1 + rnd.nextInt(2) : 0;
        String signs = " ,0123456789x;/:~! ";
        for (int i = 0; i < n; i++) {
            int at = rnd.nextInt(b.length() + 1);
            char c = signs.charAt(rnd.nextInt(signs.length()));
            int how = rnd.nextInt(3);
            if (how == 0 || at == b.length()) {
                b.insert(at, c);
            } else if (how == 1) {
                b.deleteCharAt(at);
            } else {
                b.setCharAt(at, c);
            }
        }
        for (int i = 0; rnd.nextInt(3) == 0 && i < 5; i++) {
            b.insert(rnd.nextInt(b.length() + 1), ' ');
        }
        return b.toString();
    }

    static String roundText() {
        StringBuilder b = new StringBuilder();
        int c = rnd.nextInt(25);
        int n = rnd.nextInt(15) == 0 ? 13 : 1 + rnd.nextInt(12);
        for (int i = 0; i < n; i++) {
            if (i > 0) {
                b.append(',');
                int[] steps = {0, 1, -1, 5, -5};
                int d = c + steps[rnd.nextInt(5)];
                if (d >= 0 && d < 25 && (World.dist(c, d) <= 1 || rnd.nextInt(20) == 0)) {
                    c = d;
                }
            }
            if (rnd.nextInt(10) == 0) {
                b.append("000".substring(rnd.nextInt(3)));
            }
            b.append(c);
        }
        return b.toString();
    }

    static String digitText(int n) {
        StringBuilder b = new StringBuilder();
        for (int i = 0; i < n; i++) {
            b.append(rnd.nextInt(10));
        }
        return b.toString();
    }

    void textCall() {
        int s = val(0, w.sellers.size() - 1);
        switch (rnd.nextInt(8)) {
            case 0 -> {
                typeText(mutate(digitText(rnd.nextInt(20) == 0 ? 24 + rnd.nextInt(3) : 25).replaceAll("[4-9]", "1")));
                due("town", "", x.town(), town());
            }
            case 1, 2, 3 -> {
                typeText(mutate(digitText(rnd.nextInt(9) == 0 ? rnd.nextInt(8) : 1 + rnd.nextInt(4))));
                due("tune", "" + s, x.tune(s), tune(s));
            }
            case 4 -> {
                long v = rnd.nextInt(3) == 0 ? rnd.nextLong() : 0x2030312C39383720L ^ (1L << rnd.nextInt(64));
                int n = val(1, 8);
                due("type", v + ", " + n, x.type(v, n), type(v, n));
            }
            default -> {
                typeText(mutate(roundText()));
                due("round", "" + s, x.round(s), round(s));
            }
        }
    }

    void setUpCall() {
        int s = val(0, w.sellers.size() - 1);
        switch (rnd.nextInt(9)) {
            case 0 -> {
                int c = val(0, 24);
                int v = rnd.nextInt(3) == 0 ? val(0, 9) : val(0, 3);
                due("noise", c + ", " + v, x.noise(c, v), noise(c, v));
            }
            case 1 -> {
                int k = val(0, 3);
                int l = val(1, 9);
                int p = val(1, 5);
                due("seller", k + ", " + l + ", " + p, x.seller(k, l, p), seller(k, l, p));
            }
            case 2, 3 -> {
                int what = val(0, 3);
                int v = what == 2 ? val(0, rnd.nextBoolean() ? 60 : 119) : val(0, what == 0 ? 3 : what == 1 ? 9 : 5);
                due("of", s + ", " + what + ", " + v, x.of(s, what, v), of(s, what, v));
            }
            case 4 -> {
                int v = rnd.nextBoolean() ? val(0, 20) : val(0, 5);
                due("likeness", "" + v, x.likeness(v), likeness(v));
            }
            case 5 -> {
                int b = val(0, 3);
                boolean is = rnd.nextInt(3) == 0;
                due("bylaw", b + ", " + is, x.bylaw(b, is), bylaw(b, is));
            }
            case 6 -> {
                int c = val(0, 24);
                int m = val(0, rnd.nextBoolean() ? 119 : 40);
                boolean h = rnd.nextInt(4) == 0;
                due("window", c + ", " + m + ", " + h, x.window(c, m, h), window(c, m, h));
            }
            default -> {
                int c = val(0, 24);
                int k = val(0, 3);
                int f = val(0, 5);
                int p = val(0, 20);
                due("buyer", c + ", " + k + ", " + f + ", " + p, x.buyer(c, k, f, p), buyer(c, k, f, p));
            }
        }
        if (rnd.nextInt(60) == 0) {
            due("shut", "", x.shut(), shut());
        }
        if (rnd.nextInt(100) == 0) {
            due("image", "", x.image(), image());
        }
        if (rnd.nextInt(200) == 0) {
            due("restore", "", x.restore(), restore());
        }
    }

    void askCall() {
        int s = val(0, w.sellers.size() - 1);
        int t = val(0, w.sellers.size() - 1);
        int what = val(0, 2);
        int c = val(0, 24);
        int m = val(0, rnd.nextBoolean() ? 119 : 40);
        switch (rnd.nextInt(20)) {
            case 0 -> {
                int part = val(0, 1);
                int i = val(-1, 12);
                due("told", s + ", " + part + ", " + i, x.told(s, part, i), told(s, part, i));
            }
            case 1 -> due("where", s + ", " + m, x.where(s, m), where(s, m));
            case 2 -> due("carries", "" + s, x.carries(s), carries(s));
            case 3 -> due("heard", c + ", " + m, x.heard(c, m), heard(c, m));
            case 4 -> due("apart", s + ", " + t, x.apart(s, t), apart(s, t));
            case 5 -> {
                int n = val(0, 3);
                due("count", "" + n, x.count(n), count(n));
            }
            case 6, 7 -> {
                int b = val(0, w.buyers.size() - 1);
                due("fate", b + ", " + what, x.fate(b, what), fate(b, what));
            }
            case 8 -> due("brings", "" + s, x.brings(s), brings(s));
            case 9 -> due("day", "" + what, x.day(what), day(what));
            case 10 -> due("best", s + ", " + what, x.best(s, what), best(s, what));
            case 11 -> due("rests", s + ", " + t + ", " + what, x.rests(s, t, what), rests(s, t, what));
            case 12 -> due("loudness", "" + c, x.loudness(c), loudness(c));
            case 13 -> {
                int most = rnd.nextInt(4) == 0 ? val(0, 999) : val(0, 12);
                due("quiet", c + ", " + most, x.quiet(c, most), quiet(c, most));
            }
            case 14, 15 -> {
                int b = val(0, 3);
                due("costs", b + ", " + s, x.costs(b, s), costs(b, s));
            }
            case 16 -> due("went", s + ", " + what, x.went(s, what), went(s, what));
            case 17 -> due("dies", s + ", " + c, x.dies(s, c), dies(s, c));
            case 18 -> due("clock", s + ", " + c, x.clock(s, c), clock(s, c));
            default -> {
                int n = val(1, rnd.nextInt(6) == 0 ? 3 : 2);
                int l = val(1, 9);
                int far = val(0, 12);
                int i = val(-1, n - 1);
                due("fresh", n + ", " + l + ", " + far + ", " + i, x.fresh(n, l, far, i), fresh(n, l, far, i));
            }
        }
    }

    void fillSheet() {
        int sh = rnd.nextInt(4);
        if (rows[sh] != null) {
            int most = rnd.nextBoolean() ? 3 : 9;
            for (int i = 0; i < rows[sh].length; i++) {
                int v = rnd.nextInt(most + 1) | (rnd.nextInt(3) == 0 ? 1 << 20 << rnd.nextInt(3) : 0);
                due("item", sh + ", " + lanes[sh] + ", " + i + ", " + v, x.item(sh, lanes[sh], i, v), item(sh, lanes[sh], i, v));
            }
        }
    }

    void sheetCall() {
        int sh = val(0, 3);
        int lane = in(sh, 0, 3) && rows[sh] != null && rnd.nextInt(8) != 0 ? lanes[sh] : val(0, 2);
        int i = rnd.nextInt(3) == 0 ? val(0, 24) : val(0, 3);
        switch (rnd.nextInt(12)) {
            case 0, 1 -> {
                int n = rnd.nextBoolean() ? val(0, 24) : 24;
                due("sheet", sh + ", " + lane + ", " + n, x.sheet(sh, lane, n), sheet(sh, lane, n));
                fillSheet();
            }
            case 2 -> {
                if (rnd.nextInt(5) == 0) {
                    due("drop", "" + sh, x.drop(sh), drop(sh));
                }
            }
            case 3, 4 -> {
                int v = rnd.nextInt(6) == 0 ? rnd.nextInt() : rnd.nextInt(12);
                due("item", sh + ", " + lane + ", " + i + ", " + v, x.item(sh, lane, i, v), item(sh, lane, i, v));
            }
            case 5, 6 -> {
                int to = val(0, 3);
                int j = val(0, 24);
                int n = val(0, rnd.nextBoolean() ? 5 : 24);
                due("copy", sh + ", " + i + ", " + to + ", " + j + ", " + n, x.copy(sh, i, to, j, n), copy(sh, i, to, j, n));
            }
            case 7, 8, 9 -> {
                int m = val(1, 6);
                int n = val(1, 6);
                int k = val(-1, n - 1);
                due("hands", sh + ", " + lane + ", " + i + ", " + m + ", " + n + ", " + k,
                        x.hands(sh, lane, i, m, n, k), hands(sh, lane, i, m, n, k));
            }
            default -> {
                int m = val(1, 5);
                int n = val(1, 6);
                int k = val(0, m - 1);
                due("came", sh + ", " + lane + ", " + i + ", " + m + ", " + n + ", " + k,
                        x.came(sh, lane, i, m, n, k), came(sh, lane, i, m, n, k));
            }
        }
    }

    /** Few kinds, loud cries and tunes of like notes, so that buyers come down often, for one or another. */
    void livelyOpening() {
        int kinds = 1 + rnd.nextInt(2);
        int sellers = 2 + rnd.nextInt(5);
        for (int s = 0; s < sellers; s++) {
            int k = rnd.nextInt(kinds);
            int l = 3 + rnd.nextInt(7);
            int p = 1 + rnd.nextInt(5);
            due("seller", k + ", " + l + ", " + p, x.seller(k, l, p), seller(k, l, p));
            typeText(roundText());
            due("round", "" + s, x.round(s), round(s));
            typeText(digitText(1 + rnd.nextInt(2)));
            due("tune", "" + s, x.tune(s), tune(s));
            int b = rnd.nextInt(75);
            due("of", s + ", 2, " + b, x.of(s, 2, b), of(s, 2, b));
        }
        int buyers = 6 + rnd.nextInt(7);
        for (int i = 0; i < buyers; i++) {
            S s = w.sellers.get(rnd.nextInt(sellers));
            int c = s.round.get(rnd.nextInt(s.round.size()));
            int k = rnd.nextInt(kinds);
            int f = rnd.nextInt(4);
            int p = rnd.nextInt(12);
            due("buyer", c + ", " + k + ", " + f + ", " + p, x.buyer(c, k, f, p), buyer(c, k, f, p));
        }
        if (rnd.nextBoolean()) {
            due("image", "", x.image(), image());
        }
    }

    void go() {
        if (rnd.nextInt(3) != 0) {
            livelyOpening();
        }
        while (log.size() < 470) {
            int r = rnd.nextInt(100);
            if (log.size() < 60 ? r < 50 : r < 15) {
                setUpCall();
            } else if (r < (log.size() < 60 ? 80 : 30)) {
                textCall();
            } else if (r < 45) {
                sheetCall();
            } else {
                askCall();
            }
        }
    }

    public static void main(String[] args) {
        int runs = args.length > 0 ? Integer.parseInt(args[0]) : 400;
        long seed = args.length > 1 ? Long.parseLong(args[1]) : 20;
        java.util.Map<String, Integer> answered = new java.util.TreeMap<>();
        for (int run = 0; run < runs; run++) {
            rnd = new Random(seed * 1000003 + run);
            new ModelTest(run, answered).go();
        }
        if (args.length > 2) {
            answered.forEach((k, v) -> System.out.println(k + ": " + v));
        }
        System.out.println(calls + " calls, " + wrong + " wrong");
        if (wrong != 0) {
            System.exit(1);
        }
    }
}
