import java.util.ArrayList;
import java.util.Arrays;
import java.util.List;
import java.util.Random;
import java.util.regex.Pattern;

/**
 * Random runs of calls, each answer against a second, plain reading of the document: a model that searches
 * everything by trying everything.
 */
public final class ModelTest {
    static final int NONE = -1, BAD = -2, NOT = -3, FULL = -4;

    /** A night as told or supposed. */
    static final class Case {
        String valley = "", things = "", wind = "";
        int widens = 2;
        List<int[]> rings = new ArrayList<>();
        int unblown = 0;
        int calms = 0;
        int movedThing = -1, movedTo = -1;

        Case again() {
            Case c = new Case();
            c.valley = valley;
            c.things = things;
            c.wind = wind;
            c.widens = widens;
            for (int[] r : rings) c.rings.add(r.clone());
            return c;
        }

        int cells() {
            return valley.replace(";", "").length();
        }

        int columns() {
            return valley.indexOf(';') < 0 ? valley.length() : valley.indexOf(';');
        }

        boolean isWall(int cell) {
            return valley.replace(";", "").charAt(cell) == '#';
        }

        int thingCount() {
            return things.isEmpty() ? 0 : things.split(";").length;
        }

        int thing(int t, int what) {
            String told = things.split(";")[t];
            if (what == 0) return t == movedThing ? movedTo : Integer.parseInt(told.substring(0, 2));
            if (what == 1) return told.charAt(2) - '0';
            return "pbt".indexOf(told.charAt(3));
        }

        int wind(int step) {
            return step < wind.length() && (calms >> step & 1) == 0 ? "nesw".indexOf(wind.charAt(step)) : NONE;
        }

        int upkeep(int t) {
            return thing(t, 1) * (3 - thing(t, 2));
        }
    }

    static final class Ring {
        int state = 0, row, column, width = 0, left;
        boolean nowhere = true;
    }

    /** What comes of a case. */
    static final class Outcome {
        final Case c;
        final int n, m;
        final Ring[] rings;
        final int[][][] behind;
        final int[] by, in, to;
        int throughs = 0, first = NONE;

        Outcome(Case told) {
            c = told;
            n = c.rings.size();
            m = c.thingCount();
            rings = new Ring[n];
            behind = new int[20][n][4];
            by = new int[m];
            in = new int[m];
            to = new int[m];
            Arrays.fill(by, NONE);
            Arrays.fill(in, NONE);
            Arrays.fill(to, NONE);
            for (int r = 0; r < n; r++) {
                rings[r] = new Ring();
                rings[r].left = c.rings.get(r)[3];
            }
            for (int step = 0; step < 20; step++) {
                moves(step);
                blows(step);
                widths(step);
                meetings(step);
                falls(step);
                for (int r = 0; r < n; r++) {
                    Ring g = rings[r];
                    behind[step][r] = new int[] {g.state, g.nowhere ? NONE : g.row * c.columns() + g.column, g.width, g.left};
                }
            }
        }

        boolean leg(Ring g, int way) {
            int row = g.row + new int[] {-1, 0, 1, 0}[way], column = g.column + new int[] {0, 1, 0, -1}[way];
            int rows = c.cells() / c.columns();
            if (row < 0 || column < 0 || row >= rows || column >= c.columns() || c.isWall(row * c.columns() + column)) {
                g.state = 3;
                return false;
            }
            g.row = row;
            g.column = column;
            return true;
        }

        void moves(int step) {
            for (int r = 0; r < n; r++) {
                Ring g = rings[r];
                if (g.state != 1) continue;
                if (g.left > 0) {
                    g.left--;
                    if (!leg(g, c.rings.get(r)[2])) continue;
                }
                if (c.wind(step) != NONE) leg(g, c.wind(step));
            }
        }

        void blows(int step) {
            for (int r = 0; r < n; r++) {
                int[] told = c.rings.get(r);
                if (told[0] != step || (c.unblown >> r & 1) != 0) continue;
                Ring g = rings[r];
                g.width = 1;
                g.state = 3;
                if (told[1] >= c.cells()) continue;
                g.nowhere = false;
                g.row = told[1] / c.columns();
                g.column = told[1] % c.columns();
                if (!c.isWall(told[1])) g.state = 1;
            }
        }

        void widths(int step) {
            for (int r = 0; r < n; r++) {
                if (rings[r].state != 1) continue;
                rings[r].width = 1 + (step - c.rings.get(r)[0]) / c.widens;
                if (rings[r].width > 9) rings[r].state = 4;
            }
        }

        void meetings(int step) {
            boolean[] broken = new boolean[n];
            for (int a = 0; a < n; a++) {
                for (int b = 0; b < n; b++) {
                    Ring g = rings[a], h = rings[b];
                    if (a == b || g.state != 1 || h.state != 1 || g.row != h.row || g.column != h.column) continue;
                    if (g.width == h.width) broken[a] = true;
                    else if (a < b) {
                        if (throughs == 0) first = step;
                        throughs++;
                    }
                }
            }
            for (int r = 0; r < n; r++) if (broken[r]) rings[r].state = 3;
        }

        void falls(int step) {
            for (int r = 0; r < n; r++) {
                Ring g = rings[r];
                for (int t = 0; t < m; t++) {
                    if (g.state != 1 || by[t] != NONE || c.thing(t, 0) != g.row * c.columns() + g.column) continue;
                    int w = g.width, thick = c.thing(t, 1), kind = c.thing(t, 2);
                    boolean fits = kind == 0 ? w >= thick : kind == 1 ? w == thick || w == thick + 1 : w >= thick && w <= thick + 3;
                    if (!fits) continue;
                    by[t] = r;
                    in[t] = step;
                    to[t] = c.rings.get(r)[4];
                    g.state = 2;
                }
            }
        }

        int bound() {
            int k = 0;
            for (int b : by) if (b != NONE) k++;
            return k;
        }

        int wed(int whom, int what) {
            int bits = 0, cost = 0;
            for (int t = 0; t < m; t++) {
                if (to[t] == whom) {
                    bits |= 1 << t;
                    cost += c.upkeep(t);
                }
            }
            return what == 0 ? bits : cost;
        }

        boolean shows(List<int[]> seen) {
            for (int[] s : seen) {
                if (s[0] >= m) return false;
                if (s[1] == 4 ? to[s[0]] != NONE : to[s[0]] != s[1]) return false;
            }
            return true;
        }
    }

    /** The whole object again. */
    static final class Model {
        final StringBuilder[] texts = {new StringBuilder(), new StringBuilder(), new StringBuilder()};
        final Case told = new Case();
        final List<int[]> seen = new ArrayList<>();
        final Object[] sheets = new Object[4];
        int finding = 0;

        static boolean in(int v, int least, int most) {
            return least <= v && v <= most;
        }

        int found(int k) {
            finding = k;
            return -10 - k;
        }

        static final String CELL = "[.#]", THING = "[0-3][0-9][1-9][pbt]";

        static boolean whole(int text, String s) {
            if (s.isEmpty()) return true;
            if (text == 2) return Pattern.matches("[nesw.]*", s);
            if (text == 1) return Pattern.matches("(" + THING + ";){0,7}" + THING, s);
            for (int w = 1; w <= 6; w++) {
                if (Pattern.matches("(" + CELL + "{" + w + "};){0,5}" + CELL + "{" + w + "}", s)) return true;
            }
            return false;
        }

        static boolean goesOn(int text, String s) {
            if (text == 2) return whole(2, s);
            if (text == 1) {
                String part = s.substring(s.length() - s.length() % 5);
                return Pattern.matches("(" + THING + ";){0,8}", s.substring(0, s.length() - part.length()))
                    && Pattern.matches("([0-3]([0-9]([1-9][pbt]?)?)?)?", part);
            }
            for (int w = 1; w <= 6; w++) {
                String row = "(" + CELL + "{" + w + "};)";
                if (Pattern.matches(row + "{0,5}" + CELL + "{0," + w + "}|" + row + "{6}", s)) return true;
            }
            return false;
        }

        int fault(int text) {
            if (!in(text, 0, 2)) return BAD;
            String s = texts[text].toString();
            for (int i = 0; i < s.length(); i++) if (!goesOn(text, s.substring(0, i + 1))) return i;
            return whole(text, s) ? NONE : s.length();
        }

        void reread() {
            told.valley = fault(0) == NONE ? texts[0].toString() : "";
            told.things = fault(1) == NONE ? texts[1].toString() : "";
            told.wind = fault(2) == NONE ? texts[2].toString() : "";
        }

        int type(int text, int b) {
            if (!in(text, 0, 2) || !in(b, 0, 255)) return BAD;
            if (texts[text].length() == new int[] {41, 39, 20}[text]) return FULL;
            texts[text].append((char) b);
            reread();
            return texts[text].length();
        }

        int wipe(int text) {
            if (!in(text, 0, 2)) return BAD;
            int had = texts[text].length();
            texts[text].setLength(0);
            reread();
            return had;
        }

        int undo(int text) {
            if (!in(text, 0, 2)) return BAD;
            if (texts[text].length() == 0) return NOT;
            texts[text].setLength(texts[text].length() - 1);
            reread();
            return texts[text].length();
        }

        int cell(int cell) {
            return !in(cell, 0, 35) ? BAD : cell >= told.cells() ? NONE : told.isWall(cell) ? 1 : 0;
        }

        boolean isThing(int t) {
            return in(t, 0, told.thingCount() - 1);
        }

        boolean isRing(int r) {
            return in(r, 0, told.rings.size() - 1);
        }

        int thing(int t, int what) {
            return isThing(t) && in(what, 0, 2) ? told.thing(t, what) : BAD;
        }

        int wind(int step) {
            return in(step, 0, 19) ? told.wind(step) : BAD;
        }

        int widens(int v) {
            if (!in(v, 1, 4)) return BAD;
            int was = told.widens;
            told.widens = v;
            return was;
        }

        static boolean mayBlow(int... r) {
            return in(r[0], 0, 19) && in(r[1], 0, 35) && in(r[2], 0, 3) && in(r[3], 1, 9) && in(r[4], 0, 3);
        }

        int blow(int step, int cell, int way, int breath, int whom) {
            if (!mayBlow(step, cell, way, breath, whom)) return BAD;
            if (told.rings.size() == 8) return FULL;
            told.rings.add(new int[] {step, cell, way, breath, whom});
            return told.rings.size();
        }

        int ring(int r, int what) {
            return isRing(r) && in(what, 0, 4) ? told.rings.get(r)[what] : BAD;
        }

        int back() {
            if (told.rings.isEmpty()) return NOT;
            told.rings.remove(told.rings.size() - 1);
            return told.rings.size();
        }

        int read(int s) {
            if (!in(s, 0, 3)) return BAD;
            if (sheets[s] == null) return found(1);
            int came = 0;
            for (int i = 0; i + 4 < size(s); i += 5) {
                if (blow(item(s, i), item(s, i + 1), item(s, i + 2), item(s, i + 3), item(s, i + 4)) < 0) break;
                came++;
            }
            return came;
        }

        Outcome out() {
            return new Outcome(told);
        }

        int at(int step, int r, int what) {
            return in(step, 0, 19) && isRing(r) && in(what, 0, 3) ? out().behind[step][r][what] : BAD;
        }

        int bound(int t, int what) {
            if (!isThing(t) || !in(what, 0, 2)) return BAD;
            Outcome o = out();
            return (what == 0 ? o.by : what == 1 ? o.in : o.to)[t];
        }

        int wed(int whom, int what) {
            return in(whom, 0, 3) && in(what, 0, 1) ? out().wed(whom, what) : BAD;
        }

        int throughs(int what) {
            return what == 0 ? out().throughs : what == 1 ? out().first : BAD;
        }

        int missed() {
            int bits = 0;
            Outcome o = out();
            for (int r = 0; r < o.n; r++) if (o.behind[19][r][0] != 2) bits |= 1 << r;
            return bits;
        }

        int richest() {
            Outcome o = out();
            int best = NONE, most = 0;
            for (int whom = 3; whom >= 0; whom--) {
                int k = Integer.bitCount(o.wed(whom, 0));
                if (k > 0 && k >= most) {
                    most = k;
                    best = whom;
                }
            }
            return best;
        }

        int lonely() {
            Outcome o = out();
            int best = NONE;
            for (int t = o.m - 1; t >= 0; t--) {
                if (o.in[t] != NONE && (best == NONE || o.in[t] >= o.in[best])) best = t;
            }
            return best;
        }

        int breath(int r, int t) {
            if (!isRing(r) || !isThing(t)) return BAD;
            for (int b = 1; b <= 9; b++) {
                Case c = told.again();
                c.rings.get(r)[3] = b;
                if (new Outcome(c).by[t] == r) return b;
            }
            return NONE;
        }

        int aim(int r, int what) {
            if (!isRing(r) || !in(what, 0, 2)) return BAD;
            int[] best = {0, 0, -1};
            for (int way = 0; way < 4; way++) {
                for (int b = 1; b <= 9; b++) {
                    Case c = told.again();
                    c.rings.get(r)[2] = way;
                    c.rings.get(r)[3] = b;
                    int k = new Outcome(c).bound();
                    if (k > best[2]) best = new int[] {way, b, k};
                }
            }
            return best[what];
        }

        int stand(int t) {
            if (!isThing(t)) return BAD;
            for (int cell = 0; cell < told.cells(); cell++) {
                Case c = told.again();
                c.movedThing = t;
                c.movedTo = cell;
                if (!told.isWall(cell) && new Outcome(c).by[t] == NONE) return cell;
            }
            return NONE;
        }

        /** Of sets as bits, the smallest, then the least row. */
        static int[] fewest(int n, java.util.function.IntPredicate does) {
            for (int size = 0; size <= 2; size++) {
                List<int[]> rows = new ArrayList<>();
                if (size == 0) rows.add(new int[0]);
                if (size == 1) for (int a = 0; a < n; a++) rows.add(new int[] {a});
                if (size == 2) for (int a = 0; a < n; a++) for (int b = a + 1; b < n; b++) rows.add(new int[] {a, b});
                for (int[] row : rows) {
                    int bits = 0;
                    for (int a : row) bits |= 1 << a;
                    if (does.test(bits)) return row;
                }
            }
            return null;
        }

        static int pick(int[] row, int i) {
            if (row == null) return NONE;
            return i == NONE ? row.length : i < row.length ? row[i] : NONE;
        }

        int hush(int t, int i) {
            if (!isThing(t) || !in(i, -1, 1)) return BAD;
            return pick(fewest(told.rings.size(), bits -> {
                Case c = told.again();
                c.unblown = bits;
                return new Outcome(c).by[t] == NONE;
            }), i);
        }

        int calm(int what) {
            if (!in(what, 0, 1)) return BAD;
            int best = NONE, most = -1;
            for (int step = 0; step < 20; step++) {
                Case c = told.again();
                c.calms = 1 << step;
                int k = new Outcome(c).bound();
                if (k > most) {
                    most = k;
                    best = step;
                }
            }
            return what == 0 ? best : most;
        }

        int free(int whom, int most, int i) {
            if (!in(whom, 0, 3) || !in(most, 0, 99) || !in(i, -1, 1)) return BAD;
            Outcome o = out();
            return pick(fewest(o.m, bits -> {
                int cost = 0;
                for (int t = 0; t < o.m; t++) {
                    if (o.to[t] == whom && (bits >> t & 1) == 0) cost += told.upkeep(t);
                    if (o.to[t] != whom && (bits >> t & 1) != 0) return false;
                }
                return cost <= most;
            }), i);
        }

        int seen(int t, int whom) {
            if (!in(t, 0, 7) || !in(whom, 0, 4)) return BAD;
            if (seen.size() == 8) return FULL;
            seen.add(new int[] {t, whom});
            return seen.size();
        }

        int forget() {
            int had = seen.size();
            seen.clear();
            return had;
        }

        Outcome without(int r) {
            Case c = told.again();
            c.unblown = 1 << r;
            return new Outcome(c);
        }

        int never() {
            int bits = 0;
            for (int r = 0; r < told.rings.size(); r++) if (without(r).shows(seen)) bits |= 1 << r;
            return bits;
        }

        int whence(int r, int i) {
            if (!isRing(r) || !in(i, -1, 35)) return BAD;
            List<Integer> cells = new ArrayList<>();
            for (int cell = 0; cell < told.cells(); cell++) {
                Case c = told.again();
                c.rings.get(r)[1] = cell;
                if (new Outcome(c).shows(seen)) cells.add(cell);
            }
            return i == NONE ? cells.size() : i < cells.size() ? cells.get(i) : NONE;
        }

        int paces() {
            int bits = 0;
            for (int w = 1; w <= 4; w++) {
                Case c = told.again();
                c.widens = w;
                if (new Outcome(c).shows(seen)) bits |= 1 << w;
            }
            return bits;
        }

        int ask() {
            int best = NONE, least = 99;
            for (int t = 0; t < told.thingCount(); t++) {
                int greatest = 0;
                for (int whom = -1; whom < 4; whom++) {
                    int k = 0;
                    for (int r = 0; r < told.rings.size(); r++) {
                        Outcome o = without(r);
                        if (o.shows(seen) && o.to[t] == whom) k++;
                    }
                    greatest = Math.max(greatest, k);
                }
                if (greatest < least) {
                    least = greatest;
                    best = t;
                }
            }
            return best;
        }

        long still(int c, int last, int t, int whom, int what) {
            if (!in(c, 0, 16) || !in(last, 0, 9) || !isThing(t) || !in(whom, 0, 3) || !in(what, 0, 1)) return Long.MIN_VALUE + 2;
            long above = 0, below = 1;
            for (int i = 0; i <= last; i++) below *= 16;
            for (int calms = 0; calms < 1 << last + 1; calms++) {
                long weight = 1;
                for (int i = 0; i <= last; i++) weight *= (calms >> i & 1) != 0 ? c : 16 - c;
                if (weight == 0) continue;
                Case k = told.again();
                k.calms = calms;
                if (new Outcome(k).to[t] == whom) above += weight;
            }
            long a = above, b = below;
            while (b != 0) {
                long rest = a % b;
                a = b;
                b = rest;
            }
            return what == 0 ? above / a : below / a;
        }

        int evening(int seed, int n, int what) {
            if (!in(n, 1, 8) || !in(what, 0, 1)) return BAD;
            Case c = told.again();
            c.rings.clear();
            int s = seed;
            for (int r = 0; r < n && told.cells() > 0; r++) {
                int[] of = {told.cells(), 4, 9}, lots = new int[3];
                for (int k = 0; k < 3; k++) {
                    s = (int) (1103515245L * s + 12345L);
                    lots[k] = (s >> 16 & 0xffff) % of[k];
                }
                c.rings.add(new int[] {r, lots[0], lots[1], lots[2] + 1, 0});
            }
            Outcome o = new Outcome(c);
            int broken = 0;
            for (Ring g : o.rings) if (g.state == 3) broken++;
            return what == 0 ? o.bound() : broken;
        }

        int size(int s) {
            return java.lang.reflect.Array.getLength(sheets[s]);
        }

        int form(int s) {
            return sheets[s] instanceof byte[] ? 0 : sheets[s] instanceof short[] ? 1 : 2;
        }

        int item(int s, int i) {
            return java.lang.reflect.Array.getInt(sheets[s], i);
        }

        void put(int s, int i, int v) {
            if (sheets[s] instanceof byte[] b) b[i] = (byte) v;
            if (sheets[s] instanceof short[] h) h[i] = (short) v;
            if (sheets[s] instanceof int[] n) n[i] = v;
        }

        int sheet(int s, int form, int n) {
            if (!in(s, 0, 3) || !in(form, 0, 2) || n > 60) return BAD;
            if (n < 0) return found(5);
            sheets[s] = form == 0 ? new byte[n] : form == 1 ? new short[n] : new int[n];
            return n;
        }

        int lose(int s) {
            if (!in(s, 0, 3)) return BAD;
            if (sheets[s] == null) return found(1);
            int had = size(s);
            sheets[s] = null;
            return had;
        }

        int reach(int s, int form, int i) {
            if (!in(s, 0, 3) || !in(form, 0, 2)) return BAD;
            if (sheets[s] == null) return found(1);
            if (form(s) != form) return found(3);
            return in(i, 0, size(s) - 1) ? 1 : found(2);
        }

        int lay(int s, int form, int i, int v) {
            int reached = reach(s, form, i);
            if (reached == 1) put(s, i, v);
            return reached;
        }

        int get(int s, int form, int i) {
            return reach(s, form, i) == 1 ? item(s, i) : Integer.MIN_VALUE;
        }

        int copy(int s, int i, int t, int j, int n) {
            if (!in(s, 0, 3) || !in(t, 0, 3)) return BAD;
            if (sheets[s] == null || sheets[t] == null) return found(1);
            if (form(s) != form(t)) return found(4);
            if (i < 0 || j < 0 || n < 0 || (long) i + n > size(s) || (long) j + n > size(t)) return found(2);
            int[] were = new int[n];
            for (int k = 0; k < n; k++) were[k] = item(s, i + k);
            for (int k = 0; k < n; k++) put(t, j + k, were[k]);
            return 1;
        }

        int write(int r, int s) {
            if (!isRing(r) || !in(s, 0, 3)) return BAD;
            if (sheets[s] == null) return found(1);
            int k = 0;
            for (; k < 20 && k < size(s); k++) put(s, k, at(k, r, 1));
            return k;
        }

        int count(int what) {
            switch (what) {
                case 0: return told.cells();
                case 1: return told.thingCount();
                case 2: case 3: case 4: return texts[what - 2].length();
                case 5: return told.rings.size();
                case 6: return out().bound();
                case 7: return seen.size();
                case 8: return finding;
                default: return BAD;
            }
        }

        long h;

        void mix(long... vs) {
            for (long v : vs) h = 31 * h + v;
        }

        long digest() {
            h = 17;
            for (int i = 0; i < 8; i++) mix(count(i));
            mix(fault(0), fault(1), fault(2));
            for (int i = 0; i < told.cells(); i++) mix(cell(i));
            for (int i = 0; i < 20; i++) mix(wind(i));
            for (int r = 0; r < told.rings.size(); r++) {
                for (int i = 0; i < 5; i++) mix(ring(r, i));
                for (int step : new int[] {0, 4, 9, 19}) for (int i = 0; i < 4; i++) mix(at(step, r, i));
                mix(aim(r, 0), aim(r, 1), aim(r, 2), breath(r, 0), whence(r, NONE), whence(r, 0));
            }
            for (int t = 0; t < told.thingCount(); t++) {
                mix(thing(t, 0), thing(t, 1), thing(t, 2), bound(t, 0), bound(t, 1), bound(t, 2), stand(t));
                mix(hush(t, NONE), hush(t, 0), still(5, 5, t, 0, 0), still(5, 5, t, 0, 1));
            }
            for (int w = 0; w < 4; w++) mix(wed(w, 0), wed(w, 1), free(w, 9, NONE), free(w, 9, 0));
            mix(throughs(0), throughs(1), missed(), richest(), lonely(), calm(0), calm(1), never(), paces(), ask());
            mix(evening(7, 6, 0), evening(7, 6, 1));
            return h;
        }
    }

    static final Random random = new Random(1);
    static int wrong = 0, calls = 0;
    /** An object is used for 512 calls; the dearest turn of a run takes some 90. */
    static final int ENOUGH = 420;
    static int used = 0;

    /** From least to most, and now and then beyond. */
    static int pick(int least, int most) {
        int luck = random.nextInt(40);
        if (luck == 0) return least - 1;
        if (luck == 1) return most + 1;
        if (luck == 2 && random.nextInt(8) == 0) {
            int[] far = {Integer.MIN_VALUE, Integer.MAX_VALUE, -7, 1000};
            return far[random.nextInt(4)];
        }
        return least + random.nextInt(most - least + 1);
    }

    static String valleyText() {
        int rows = 1 + random.nextInt(6), columns = 1 + random.nextInt(6), walls = random.nextInt(6);
        StringBuilder s = new StringBuilder();
        for (int r = 0; r < rows; r++) {
            if (r > 0) s.append(';');
            for (int c = 0; c < columns; c++) s.append(random.nextInt(24) < walls ? '#' : '.');
        }
        return s.toString();
    }

    static String thingsText(int cells) {
        StringBuilder s = new StringBuilder();
        int n = random.nextInt(9), thickest = 1 + random.nextInt(9);
        for (int t = 0; t < n; t++) {
            int cell = random.nextInt(8) == 0 ? random.nextInt(40) : random.nextInt(cells);
            if (t > 0) s.append(';');
            s.append(cell / 10).append(cell % 10).append(1 + random.nextInt(thickest)).append("pbt".charAt(random.nextInt(3)));
        }
        return s.toString();
    }

    static String windText() {
        StringBuilder s = new StringBuilder();
        int n = random.nextInt(21), calm = random.nextInt(10);
        for (int i = 0; i < n; i++) s.append(random.nextInt(10) < calm ? '.' : "nesw".charAt(random.nextInt(4)));
        return s.toString();
    }

    static void same(int run, String call, long got, long due) {
        calls++;
        used++;
        if (got == due) return;
        wrong++;
        if (wrong <= 20) System.out.println("run " + run + ": " + call + " answered " + got + ", the model " + due);
    }

    static void typeAll(int run, SmokeRings x, Model m, int text, String s) {
        for (char b : s.toCharArray()) same(run, "type(" + text + ", " + (int) b + ")", x.type(text, b), m.type(text, b));
    }

    static void setUp(int run, SmokeRings x, Model m) {
        String valley = valleyText();
        int cells = valley.replace(";", "").length();
        typeAll(run, x, m, 0, valley);
        typeAll(run, x, m, 1, thingsText(cells));
        typeAll(run, x, m, 2, windText());
        int w = 1 + random.nextInt(4);
        same(run, "widens", x.widens(w), m.widens(w));
        int rings = random.nextInt(9), latest = 1 + random.nextInt(20);
        for (int r = 0; r < rings; r++) {
            int step = random.nextInt(latest), way = random.nextInt(4), breath = 1 + random.nextInt(9), whom = random.nextInt(4);
            int from = random.nextInt(9) == 0 ? random.nextInt(36) : random.nextInt(cells);
            same(run, "blow", x.blow(step, from, way, breath, whom), m.blow(step, from, way, breath, whom));
        }
        int sights = random.nextInt(4);
        for (int i = 0; i < sights && m.told.thingCount() > 0; i++) {
            int t = random.nextInt(m.told.thingCount()), to = m.bound(t, 2);
            to = to == NONE ? 4 : to;
            same(run, "seen", x.seen(t, to), m.seen(t, to));
        }
    }

    static void change(int run, SmokeRings x, Model m) {
        int a = pick(0, 2), b = pick(0, 7), c = pick(0, 4), d = pick(0, 19), e = pick(0, 35), f = pick(0, 3), g = pick(1, 9);
        switch (random.nextInt(12)) {
            case 0: int sign = pick(0, 255); same(run, "type " + a, x.type(a, sign), m.type(a, sign)); break;
            case 1: int known = ".#;nesw0123pbt".charAt(random.nextInt(14)); same(run, "type " + a, x.type(a, known), m.type(a, known)); break;
            case 2: same(run, "undo", x.undo(a), m.undo(a)); break;
            case 3: if (random.nextInt(4) == 0) same(run, "wipe", x.wipe(a), m.wipe(a)); break;
            case 4: same(run, "widens", x.widens(c), m.widens(c)); break;
            case 5: case 6: same(run, "blow", x.blow(d, e, f, g, c), m.blow(d, e, f, g, c)); break;
            case 7: same(run, "back", x.back(), m.back()); break;
            case 8: case 9: same(run, "seen", x.seen(b, c), m.seen(b, c)); break;
            case 10: if (random.nextInt(3) == 0) same(run, "forget", x.forget(), m.forget()); break;
            default: int k = m.fault(1) == NONE ? 0 : 1; same(run, "undo", x.undo(k), m.undo(k)); break;
        }
    }

    static void look(int run, SmokeRings x, Model m) {
        int b = pick(0, 7), c = pick(0, 4), d = pick(0, 19), e = pick(0, 35), f = pick(0, 3), i = pick(-1, 1), w = pick(0, 2), o = pick(0, 1);
        int r = pick(0, Math.max(0, m.told.rings.size() - 1)), t = pick(0, Math.max(0, m.told.thingCount() - 1));
        switch (random.nextInt(29)) {
            case 0: same(run, "fault", x.fault(w), m.fault(w)); break;
            case 1: same(run, "cell", x.cell(e), m.cell(e)); break;
            case 2: same(run, "thing", x.thing(t, w), m.thing(t, w)); break;
            case 3: same(run, "wind", x.wind(d), m.wind(d)); break;
            case 4: same(run, "ring", x.ring(r, c), m.ring(r, c)); break;
            case 5: case 6: case 7: case 8: same(run, "at " + d + " " + r + " " + f, x.at(d, r, f), m.at(d, r, f)); break;
            case 9: same(run, "bound", x.bound(t, w), m.bound(t, w)); break;
            case 10: same(run, "wed", x.wed(f, o), m.wed(f, o)); break;
            case 11: same(run, "throughs", x.throughs(o), m.throughs(o)); break;
            case 12: same(run, "missed", x.missed(), m.missed()); break;
            case 13: same(run, "richest", x.richest(), m.richest()); break;
            case 14: same(run, "lonely", x.lonely(), m.lonely()); break;
            case 15: same(run, "breath", x.breath(r, t), m.breath(r, t)); break;
            case 16: same(run, "aim", x.aim(r, w), m.aim(r, w)); break;
            case 17: same(run, "stand", x.stand(t), m.stand(t)); break;
            case 18: same(run, "hush", x.hush(t, i), m.hush(t, i)); break;
            case 19: same(run, "calm", x.calm(o), m.calm(o)); break;
            case 20: int most = pick(0, random.nextBoolean() ? 99 : 12); same(run, "free", x.free(f, most, i), m.free(f, most, i)); break;
            case 21: same(run, "never", x.never(), m.never()); break;
            case 22: int k = pick(-1, random.nextBoolean() ? 35 : 4); same(run, "whence", x.whence(r, k), m.whence(r, k)); break;
            case 23: same(run, "paces", x.paces(), m.paces()); break;
            case 24: same(run, "ask", x.ask(), m.ask()); break;
            case 25: int p = pick(0, 16), last = pick(0, random.nextInt(6) == 0 ? 9 : 4); same(run, "still", x.still(p, last, t, f, o), m.still(p, last, t, f, o)); break;
            case 26: int seed = random.nextBoolean() ? random.nextInt() : random.nextInt(9), n = pick(1, 8); same(run, "evening", x.evening(seed, n, o), m.evening(seed, n, o)); break;
            case 27: int what = pick(0, 8); same(run, "count", x.count(what), m.count(what)); break;
            default: if (random.nextInt(12) == 0) same(run, "digest", x.digest(), m.digest()); break;
        }
    }

    static void useSheets(int run, SmokeRings x, Model m) {
        int s = pick(0, 3), form = pick(0, 2), n = pick(0, 60), i = pick(0, 20), t = pick(0, 3), j = pick(0, 20), some = pick(0, 9);
        int r = pick(0, Math.max(0, m.told.rings.size() - 1));
        switch (random.nextInt(9)) {
            case 0: same(run, "sheet", x.sheet(s, form, n), m.sheet(s, form, n)); break;
            case 1: same(run, "lose", x.lose(s), m.lose(s)); break;
            case 2: case 3:
                int v = random.nextInt(3) == 0 ? random.nextInt() : pick(0, 4);
                same(run, "lay", x.lay(s, form, i, v), m.lay(s, form, i, v));
                break;
            case 4: same(run, "get", x.get(s, form, i), m.get(s, form, i)); break;
            case 5: same(run, "copy", x.copy(s, i, t, j, some), m.copy(s, i, t, j, some)); break;
            case 6: same(run, "write", x.write(r, s), m.write(r, s)); break;
            case 7: readRings(run, x, m); break;
            default: same(run, "count", x.count(8), m.count(8)); break;
        }
        if (s >= 0 && s < 4 && m.sheets[s] != null) {
            for (int k = 0; k < m.size(s); k++) same(run, "get " + k, x.get(s, m.form(s), k), m.item(s, k));
        }
    }

    static void readRings(int run, SmokeRings x, Model m) {
        int s = pick(0, 3), n = random.nextInt(24);
        same(run, "sheet", x.sheet(s, 2, n), m.sheet(s, 2, n));
        for (int k = 0; k < n; k++) {
            int[] most = {19, 35, 3, 9, 3};
            int v = random.nextInt(60) == 0 ? pick(0, 60) : (k % 5 == 3 ? 1 : 0) + random.nextInt(k % 5 == 3 ? 9 : most[k % 5] + 1);
            same(run, "lay", x.lay(s, 2, k, v), m.lay(s, 2, k, v));
        }
        same(run, "read", x.read(s), m.read(s));
    }

    /** What the answers are at one moment, of each third step. */
    static void lookAtAll(int run, SmokeRings x, Model m) {
        Outcome o = m.out();
        for (int r = 0; r < o.n; r++) {
            for (int step = random.nextInt(3); step < 20; step += 3) {
                for (int what = 0; what < 4; what++) same(run, "at " + step + " " + r + " " + what, x.at(step, r, what), o.behind[step][r][what]);
            }
            for (int t = 0; t < o.m; t++) same(run, "breath", x.breath(r, t), m.breath(r, t));
        }
        for (int t = 0; t < o.m; t++) same(run, "hush " + t, x.hush(t, 1), m.hush(t, 1));
        same(run, "digest", x.digest(), m.digest());
        same(run, "digest again", x.digest(), m.h);
    }

    public static void main(String[] args) {
        int runs = args.length > 0 ? Integer.parseInt(args[0]) : 500;
        for (int run = 0; run < runs && wrong < 20; run++) {
            random.setSeed(run + (args.length > 1 ? Long.parseLong(args[1]) : 0));
            SmokeRings x = new SmokeRings();
            Model m = new Model();
            used = 0;
            if (run % 10 != 9) setUp(run, x, m);
            if (run % 4 == 0) lookAtAll(run, x, m);
            for (int call = 0; call < 120 && used < ENOUGH; call++) {
                int kind = random.nextInt(10);
                if (kind < 1) change(run, x, m);
                else if (kind < 8) look(run, x, m);
                else useSheets(run, x, m);
            }
        }
        System.out.println(calls + " answers compared, " + wrong + " unlike");
        if (wrong != 0) System.exit(1);
    }
}
