import java.util.ArrayList;
import java.util.Arrays;
import java.util.List;
import java.util.Random;

/** Random runs of calls, each answered by the class and by a slow model that follows the document's words. */
public final class ModelTest {
    private static final int BAD = -1, NOT = -2, FULL = -3, BIG = -4, STATE = -5, VOID = -2000000000;
    private static int wrong = 0;
    private static long calls = 0;

    public static void main(String[] args) {
        for (int seed = 1; seed <= 700 && wrong < 20; seed++) {
            new Play(seed).go();
        }
        System.out.println(calls + " calls, " + wrong + " answers are not as due");
        if (wrong != 0) {
            System.exit(1);
        }
    }

    // ---- the model

    static final class Fraction {
        final long top, bottom;
        Fraction(long top, long bottom) {
            long a = Math.abs(top), b = bottom;
            while (b != 0) { long r = a % b; a = b; b = r; }
            this.top = top / a;
            this.bottom = bottom / a;
        }
        Fraction plus(Fraction o) { return new Fraction(top * o.bottom + o.top * bottom, bottom * o.bottom); }
        Fraction minus(Fraction o) { return plus(new Fraction(-o.top, o.bottom)); }
        Fraction times(long n) { return new Fraction(top * n, bottom); }
        Fraction over(long n) { return new Fraction(top, bottom * n); }
        int against(Fraction o) { return Long.compare(top * o.bottom, o.top * bottom); }
        boolean isAboveZero() { return top > 0; }
    }

    static final class Fault extends Exception {
        final int place;
        Fault(int place) { this.place = place; }
    }

    /** A person's list: groups of alike things. */
    static final class Wish {
        int held = -1;
        List<List<Integer>> groups = new ArrayList<>();
        List<Integer> flat() {
            List<Integer> all = new ArrayList<>();
            for (List<Integer> group : groups) all.addAll(group);
            return all;
        }
        int level(int thing) {
            for (int i = 0; i < groups.size(); i++) if (groups.get(i).contains(thing)) return i;
            return -1;
        }
    }

    static final class Given {
        List<Integer> amounts = new ArrayList<>();
        List<Wish> wishes = new ArrayList<>();
        int rounds = 1;
        int[][] table;
        int people() { return wishes.size(); }
        int things() { return amounts.size(); }
    }

    /** Reads sign by sign: what may come next depends on what came last. */
    static final class Reader {
        final String text;
        final Given g;
        int at = 0;
        Reader(String text, Given g) { this.text = text; this.g = g; }
        char peek() { return at < text.length() ? text.charAt(at) : 0; }
        void need(boolean fine) throws Fault { if (!fine || at >= text.length()) throw new Fault(Math.min(at, text.length())); }
        void giving() throws Fault {
            while (true) {
                if (peek() == ';' && g.things() > 0) break;
                need(g.things() < 8 && peek() == (char) ('a' + g.things()));
                at++;
                need("123456789".indexOf(peek()) >= 0 && peek() != 0);
                g.amounts.add(peek() - '0');
                at++;
            }
            while (at < text.length()) {
                need(peek() == ';' && g.people() < 7);
                at++;
                g.wishes.add(wish());
            }
            g.table = new int[g.people()][g.things()];
        }
        Wish wish() throws Fault {
            Wish w = new Wish();
            if (peek() == '*') {
                at++;
                int thing = peek() - 'a';
                need(thing >= 0 && thing < g.things());
                int held = 0;
                for (Wish other : g.wishes) if (other != null && other.held == thing) held++;
                need(held < g.amounts.get(thing));
                w.held = thing;
                at++;
            }
            if (peek() == '-') { at++; return w; }
            boolean newGroup = true;
            while (true) {
                int thing = peek() - 'a';
                need(thing >= 0 && thing < g.things() && w.level(thing) < 0);
                if (newGroup) w.groups.add(new ArrayList<>());
                w.groups.get(w.groups.size() - 1).add(thing);
                at++;
                if (peek() == '>') newGroup = true;
                else if (peek() == '=') newGroup = false;
                else return w;
                at++;
            }
        }
    }

    static final class Ran {
        Given g;
        int[][] has;
        int[] left;
        List<List<int[]>> led = new ArrayList<>();
    }

    @SuppressWarnings("unchecked")
    static final List<List<Integer>>[] LINES = new List[9];

    static final class Model {
        final StringBuilder tape = new StringBuilder();
        final List<Given> givings = new ArrayList<>();
        final List<Integer> ways = new ArrayList<>();
        Ran latest;
        final List<Integer> orders = new ArrayList<>();
        int ordersOf;
        Fraction evenIs;
        final List<Integer> trace = new ArrayList<>();
        final Object[] shelves = new Object[6];

        boolean given(int g) { return g >= 0 && g < givings.size(); }
        boolean person(int g, int who) { return given(g) && who >= 0 && who < givings.get(g).people(); }
        int kind(int way) { return way >= 0 && way < ways.size() ? ways.get(way) : -1; }

        int feed(int n, int v) {
            if (n < 1 || n > 4) return BAD;
            if (tape.length() + n > 120) return FULL;
            for (int i = 0; i < n; i++) { tape.append((char) (v & 255)); v >>= 8; }
            return tape.length();
        }
        int giving() {
            if (givings.size() == 5) return FULL;
            Given g = new Given();
            String text = tape.toString();
            tape.setLength(0);
            try { new Reader(text, g).giving(); } catch (Fault f) { return -100 - f.place; }
            givings.add(g);
            return givings.size() - 1;
        }
        int of(int giving, int what) {
            if (!given(giving)) return VOID;
            Given g = givings.get(giving);
            if (what == 0) return g.people();
            if (what == 1) return g.things();
            if (what == 2) return g.rounds;
            for (int t = 0; t < g.things(); t++) if (what == 10 + t) return g.amounts.get(t);
            for (int p = 0; p < g.people(); p++) if (what == 20 + p) return g.wishes.get(p).held;
            return VOID;
        }
        int rounds(int giving, int n) {
            if (!given(giving) || n < 1 || n > 3) return BAD;
            int old = givings.get(giving).rounds;
            givings.get(giving).rounds = n;
            return old;
        }
        int level(int giving, int who, int thing) {
            if (!person(giving, who) || thing < 0 || thing >= givings.get(giving).things()) return VOID;
            return givings.get(giving).wishes.get(who).level(thing);
        }
        int listed(int giving, int who, int i) {
            if (!person(giving, who)) return BAD;
            List<Integer> flat = givings.get(giving).wishes.get(who).flat();
            if (i == -1) return flat.size();
            return i >= 0 && i < flat.size() ? flat.get(i) : BAD;
        }
        int takes(int giving, int who, int left) {
            if (!person(giving, who) || left < 0 || left > (1 << givings.get(giving).things()) - 1) return BAD;
            for (int t : givings.get(giving).wishes.get(who).flat()) if ((left & (1 << t)) != 0) return t;
            return NOT;
        }
        Given copy(Given g) {
            Given made = new Given();
            made.amounts.addAll(g.amounts);
            made.wishes.addAll(g.wishes);
            made.rounds = g.rounds;
            made.table = new int[g.people()][];
            for (int p = 0; p < g.people(); p++) made.table[p] = g.table[p].clone();
            return made;
        }
        int instead(int giving, int who) {
            if (!person(giving, who)) return BAD;
            if (givings.size() == 5) return FULL;
            Given g = copy(givings.get(giving));
            String text = tape.toString();
            tape.setLength(0);
            g.wishes.set(who, null);
            try {
                Reader r = new Reader(text, g);
                Wish w = r.wish();
                if (r.at != text.length()) throw new Fault(r.at);
                g.wishes.set(who, w);
            } catch (Fault f) { return -100 - f.place; }
            givings.add(g);
            return givings.size() - 1;
        }

        List<Integer> lineOf(int n, int number) {
            if (number < 0) return null;
            String digits = String.valueOf(number);
            while (digits.length() < n) digits = "0" + digits;
            if (digits.length() != n) return null;
            List<Integer> line = new ArrayList<>();
            for (char c : digits.toCharArray()) {
                int p = c - '0';
                if (p >= n || line.contains(p)) return null;
                line.add(p);
            }
            return line;
        }
        int number(List<Integer> line) {
            int n = 0;
            for (int p : line) n = 10 * n + p;
            return n;
        }
        List<List<Integer>> lines(int n) {
            if (LINES[n] == null) {
                LINES[n] = new ArrayList<>();
                lines(n, new ArrayList<>(), LINES[n]);
            }
            return LINES[n];
        }
        void lines(int n, List<Integer> begun, List<List<Integer>> all) {
            if (begun.size() == n) { all.add(new ArrayList<>(begun)); return; }
            for (int p = 0; p < n; p++) if (!begun.contains(p)) {
                begun.add(p);
                lines(n, begun, all);
                begun.remove(begun.size() - 1);
            }
        }
        Ran play(Given g, List<Integer> line, boolean back) {
            Ran r = new Ran();
            r.g = g;
            r.has = new int[g.people()][g.things()];
            r.left = new int[g.things()];
            for (int t = 0; t < g.things(); t++) r.left[t] = g.amounts.get(t);
            for (int p = 0; p < g.people(); p++) r.led.add(new ArrayList<>());
            int turn = 0;
            for (int round = 1; round <= g.rounds; round++) {
                List<Integer> now = new ArrayList<>(line);
                if (back && round == 2) java.util.Collections.reverse(now);
                for (int p : now) {
                    for (int t : g.wishes.get(p).flat()) if (r.left[t] > 0) {
                        r.left[t]--;
                        r.has[p][t]++;
                        r.led.get(p).add(new int[] {turn, t});
                        break;
                    }
                    turn++;
                }
            }
            return r;
        }
        int run(int giving, int way, int order) {
            if (!given(giving) || kind(way) != 1 && kind(way) != 2) return BAD;
            List<Integer> line = lineOf(givings.get(giving).people(), order);
            if (line == null) return BAD;
            latest = play(givings.get(giving), line, kind(way) == 2);
            return 1;
        }
        boolean ranOf(int who, int thing) {
            return latest != null && who >= 0 && who < latest.g.people() && thing >= 0 && thing < latest.g.things();
        }
        int has(int who, int thing) { return ranOf(who, thing) ? latest.has[who][thing] : BAD; }
        int left(int thing) { return ranOf(0, thing) ? latest.left[thing] : BAD; }
        int led(int who, int i, int what) {
            if (!ranOf(who, 0) || i < 0 || i >= latest.led.get(who).size() || what < 0 || what > 1) return BAD;
            return latest.led.get(who).get(i)[what];
        }
        boolean wished(Given g, int who, int thing, int given) {
            int a = g.wishes.get(who).level(thing), b = g.wishes.get(who).level(given);
            return a >= 0 && a < b;
        }
        boolean ringAmong(List<Integer> people, List<Integer> gives) {
            Given g = latest.g;
            if (gives.size() == people.size()) {
                for (int i = 0; i < people.size(); i++) {
                    int ahead = (i + people.size() - 1) % people.size();
                    if (!wished(g, people.get(i), gives.get(ahead), gives.get(i))) return false;
                }
                return true;
            }
            int p = people.get(gives.size());
            for (int t = 0; t < g.things(); t++) if (latest.has[p][t] > 0) {
                gives.add(t);
                if (ringAmong(people, gives)) return true;
                gives.remove(gives.size() - 1);
            }
            return false;
        }
        boolean ringOf(int n, List<Integer> people) {
            if (people.size() == n) return ringAmong(people, new ArrayList<>());
            for (int p = 0; p < latest.g.people(); p++) {
                if (people.contains(p) || !people.isEmpty() && p < people.get(0)) continue;
                people.add(p);
                if (ringOf(n, people)) return true;
                people.remove(people.size() - 1);
            }
            return false;
        }
        int ring(int i) {
            if (latest == null || i < -1) return BAD;
            for (int p = 0; p < latest.g.people(); p++)
                for (int t = 0; t < latest.g.things(); t++)
                    for (int other = 0; other < latest.g.things(); other++)
                        if (latest.has[p][t] > 0 && latest.left[other] > 0 && wished(latest.g, p, other, t))
                            return i == -1 ? 1 : i == 0 ? 10 * p + t : BAD;
            for (int n = 2; n <= Math.min(4, latest.g.people()); n++)
                if (ringOf(n, new ArrayList<>())) return 999;
            return i == -1 ? NOT : BAD;
        }

        int way(int kind) {
            if (kind < 0 || kind > 6) return BAD;
            if (ways.size() == 15) return FULL;
            ways.add(kind);
            return ways.size() - 1;
        }
        Fraction[][] shares(Given g, int kind, int[] stops) {
            Fraction[][] s = new Fraction[g.people()][g.things()];
            for (Fraction[] row : s) Arrays.fill(row, new Fraction(0, 1));
            if (kind == 1 || kind == 2) {
                long[][] sum = new long[g.people()][g.things()];
                List<List<Integer>> all = lines(g.people());
                for (List<Integer> line : all) {
                    Ran r = play(g, line, kind == 2);
                    for (int p = 0; p < g.people(); p++) for (int t = 0; t < g.things(); t++) sum[p][t] += r.has[p][t];
                }
                for (int p = 0; p < g.people(); p++)
                    for (int t = 0; t < g.things(); t++) s[p][t] = new Fraction(sum[p][t], all.size());
            }
            if (kind == 3) eat(g, s, stops);
            if (kind == 4) trade(g, s);
            if (kind == 5 || kind == 6) {
                int[][] table = kind == 5 ? g.table : mended(g);
                for (int p = 0; p < g.people(); p++)
                    for (int t = 0; t < g.things(); t++) s[p][t] = new Fraction(table[p][t], 60);
            }
            return s;
        }
        void eat(Given g, Fraction[][] s, int[] stops) {
            Fraction[] left = new Fraction[g.things()];
            for (int t = 0; t < g.things(); t++) left[t] = new Fraction(g.amounts.get(t), 1);
            Fraction time = new Fraction(0, 1);
            while (time.against(new Fraction(g.rounds, 1)) < 0) {
                int[] food = new int[g.people()];
                int[] mouths = new int[g.things()];
                boolean some = false;
                for (int p = 0; p < g.people(); p++) {
                    food[p] = -1;
                    for (int t : g.wishes.get(p).flat()) if (left[t].isAboveZero()) {
                        food[p] = t;
                        mouths[t]++;
                        some = true;
                        break;
                    }
                }
                if (!some) return;
                Fraction step = new Fraction(g.rounds, 1).minus(time);
                for (int t = 0; t < g.things(); t++) if (mouths[t] > 0) {
                    Fraction ends = left[t].over(mouths[t]);
                    if (ends.against(step) < 0) step = ends;
                }
                for (int p = 0; p < g.people(); p++) if (food[p] >= 0) {
                    s[p][food[p]] = s[p][food[p]].plus(step);
                    left[food[p]] = left[food[p]].minus(step);
                }
                time = time.plus(step);
                stops[0]++;
            }
        }
        /** Rings found among all sets of people by looking at each one's path. */
        void trade(Given g, Fraction[][] s) {
            List<Integer> in = new ArrayList<>();
            int[] end = new int[g.people()];
            Arrays.fill(end, -1);
            for (int p = 0; p < g.people(); p++) if (g.wishes.get(p).held >= 0) in.add(p);
            while (!in.isEmpty()) {
                int[] to = new int[g.people()];
                int nobody = -1;
                for (int p : in) {
                    to[p] = -1;
                    for (int t : g.wishes.get(p).flat()) {
                        if (to[p] >= 0) break;
                        for (int q : in) if (g.wishes.get(q).held == t && (to[p] < 0 || q == p)) to[p] = q;
                    }
                    if (to[p] < 0) nobody = p;
                }
                if (nobody >= 0) {
                    end[nobody] = g.wishes.get(nobody).held;
                    in.remove((Integer) nobody);
                    continue;
                }
                List<Integer> ring = null;
                for (int p : in) {
                    List<Integer> path = new ArrayList<>();
                    int q = p;
                    while (!path.contains(q)) { path.add(q); q = to[q]; }
                    if (q == p) { ring = path; break; }
                }
                for (int q : ring) end[q] = g.wishes.get(to[q]).held;
                in.removeAll(ring);
            }
            int[] left = new int[g.things()];
            for (int t = 0; t < g.things(); t++) left[t] = g.amounts.get(t);
            for (Wish w : g.wishes) if (w.held >= 0) left[w.held]--;
            for (int p = 0; p < g.people(); p++) {
                if (end[p] < 0) for (int t : g.wishes.get(p).flat()) if (left[t] > 0) { left[t]--; end[p] = t; break; }
                if (end[p] >= 0) s[p][end[p]] = new Fraction(1, 1);
            }
        }
        int[][] mended(Given g) {
            int[][] m = new int[g.people()][];
            for (int p = 0; p < g.people(); p++) {
                m[p] = g.table[p].clone();
                for (int t = 0; t < g.things(); t++) if (g.wishes.get(p).level(t) < 0) m[p][t] = 0;
                List<Integer> flat = g.wishes.get(p).flat();
                java.util.Collections.reverse(flat);
                for (int t : flat) while (m[p][t] > 0 && Arrays.stream(m[p]).sum() > 60 * g.rounds) m[p][t]--;
            }
            for (int t = 0; t < g.things(); t++) {
                int sum = 0;
                for (int p = 0; p < g.people(); p++) sum += m[p][t];
                for (int p = g.people() - 1; p >= 0; p--)
                    while (m[p][t] > 0 && sum > 60 * g.amounts.get(t)) { m[p][t]--; sum--; }
            }
            return m;
        }
        long share(int giving, int way, int at, int what) {
            if (!given(giving) || kind(way) < 0 || at < 0 || what < 0 || what > 1) return BAD;
            Given g = givings.get(giving);
            if (at / 10 >= g.people() || at % 10 >= g.things()) return BAD;
            Fraction f = shares(g, kind(way), new int[1])[at / 10][at % 10];
            return what == 0 ? f.top : f.bottom;
        }
        int stops(int giving) {
            if (!given(giving)) return BAD;
            int[] stops = new int[1];
            shares(givings.get(giving), 3, stops);
            return stops[0];
        }
        int compare(Wish w, Fraction[] a, Fraction[] b) {
            boolean up = false, down = false;
            for (int level = 0; level < w.groups.size(); level++) {
                Fraction x = new Fraction(0, 1), y = x;
                for (int t = 0; t < a.length; t++) if (w.level(t) >= 0 && w.level(t) <= level) { x = x.plus(a[t]); y = y.plus(b[t]); }
                if (x.against(y) > 0) up = true;
                if (x.against(y) < 0) down = true;
            }
            return up && down ? 2 : up ? 1 : down ? -1 : 0;
        }
        int rather(int giving, int who, int way, int other) {
            if (!person(giving, who) || kind(way) < 0 || kind(other) < 0) return VOID;
            Given g = givings.get(giving);
            return compare(g.wishes.get(who), shares(g, kind(way), new int[1])[who], shares(g, kind(other), new int[1])[who]);
        }
        int envy(int giving, int way) {
            if (!given(giving) || kind(way) < 0) return BAD;
            Given g = givings.get(giving);
            Fraction[][] s = shares(g, kind(way), new int[1]);
            for (int i = 0; i < g.people(); i++)
                for (int j = 0; j < g.people(); j++)
                    if (compare(g.wishes.get(i), s[i], s[j]) == -1) return 10 * i + j;
            return NOT;
        }
        int lie(Given g, int who, int kind, List<Integer> places) {
            Given other = copy(g);
            Wish w = new Wish();
            w.held = g.wishes.get(who).held;
            for (int place : places) w.groups.add(List.of(g.wishes.get(who).flat().get(place)));
            other.wishes.set(who, w);
            return compare(g.wishes.get(who), shares(other, kind, new int[1])[who], shares(g, kind, new int[1])[who]);
        }
        int wrongly(int giving, int who, int way, int digits) {
            if (!person(giving, who) || kind(way) != 1 && kind(way) != 3) return VOID;
            Given g = givings.get(giving);
            int n = g.wishes.get(who).flat().size();
            String told = String.valueOf(digits);
            List<Integer> places = new ArrayList<>();
            if (!(n == 0 && digits == 0)) {
                if (digits < 0 || told.length() != n) return VOID;
                for (char c : told.toCharArray()) {
                    int place = c - '1';
                    if (place < 0 || place >= n || places.contains(place)) return VOID;
                    places.add(place);
                }
            }
            return lie(g, who, kind(way), places);
        }
        int gains(int giving, int who, int way) {
            if (!person(giving, who) || kind(way) != 1 && kind(way) != 3) return BAD;
            Given g = givings.get(giving);
            int n = g.wishes.get(who).flat().size();
            if (n > 5) return BIG;
            for (List<Integer> places : lines(n)) if (lie(g, who, kind(way), places) == 1) {
                int digits = 0;
                for (int place : places) digits = 10 * digits + place + 1;
                return digits;
            }
            return NOT;
        }

        int told(int giving, int at, int v) {
            if (!given(giving) || at < 0 || v < 0 || v > 60) return BAD;
            Given g = givings.get(giving);
            if (at / 10 >= g.people() || at % 10 >= g.things()) return BAD;
            int old = g.table[at / 10][at % 10];
            g.table[at / 10][at % 10] = v;
            return old;
        }
        int table(int giving, int shelf, int i) {
            if (!given(giving) || shelf < 0 || shelf > 5) return BAD;
            if (shelves[shelf] == null) return 0;
            if (!(shelves[shelf] instanceof byte[])) return -12;
            byte[] row = (byte[]) shelves[shelf];
            Given g = givings.get(giving);
            int came = 0;
            for (int p = 0; p < g.people(); p++) for (int t = 0; t < g.things(); t++) {
                if (i < 0 || i >= row.length || row[i] < 0 || row[i] > 60) return came;
                g.table[p][t] = row[i];
                i++;
                came++;
            }
            return came;
        }
        int personParts(Given g, int p) { return Arrays.stream(g.table[p]).sum(); }
        int bars(int giving) {
            if (!given(giving)) return BAD;
            Given g = givings.get(giving);
            for (int p = 0; p < g.people(); p++) {
                if (personParts(g, p) > 60 * g.rounds) return p;
                for (int t = 0; t < g.things(); t++) if (g.table[p][t] > 0 && g.wishes.get(p).level(t) < 0) return p;
            }
            for (int t = 0; t < g.things(); t++) {
                int sum = 0;
                for (int p = 0; p < g.people(); p++) sum += g.table[p][t];
                if (sum > 60 * g.amounts.get(t)) return 10 + t;
            }
            return NOT;
        }
        /** Whether k sixtieths of a whole giving can be taken off, by the document's words alone. */
        boolean canOff(Given g, int[][] rest, int[] whole, int k, int sixtieths) {
            for (int p = 0; p < g.people(); p++) if (rest[p][whole[p]] < k) return false;
            for (int t = 0; t < g.things(); t++) {
                int used = 0, parts = 0;
                for (int p = 0; p < g.people(); p++) {
                    if (whole[p] == t) used++;
                    parts += rest[p][t] - (whole[p] == t ? k : 0);
                }
                if (used > g.amounts.get(t) || parts > g.amounts.get(t) * (sixtieths - k)) return false;
            }
            return k <= sixtieths;
        }
        boolean firstWhole(Given g, int[][] rest, int[] whole, int p, int sixtieths) {
            if (p == g.people()) return canOff(g, rest, whole, 1, sixtieths);
            for (int t = 0; t < g.things(); t++) if (rest[p][t] > 0) {
                whole[p] = t;
                if (firstWhole(g, rest, whole, p + 1, sixtieths)) return true;
            }
            return false;
        }
        int parted(int giving, int i, int what) {
            if (!given(giving) || i < -1 || what < 0 || what > 1) return BAD;
            Given g = givings.get(giving);
            if (g.rounds != 1 || bars(giving) != NOT) return STATE;
            for (int p = 0; p < g.people(); p++) if (personParts(g, p) != 60) return STATE;
            int[][] rest = copy(g).table;
            int sixtieths = 60, many = 0;
            while (sixtieths > 0) {
                int[] whole = new int[g.people()];
                if (!firstWhole(g, rest, whole, 0, sixtieths)) return 777;
                int k = 1;
                while (canOff(g, rest, whole, k + 1, sixtieths)) k++;
                for (int p = 0; p < g.people(); p++) rest[p][whole[p]] -= k;
                sixtieths -= k;
                if (many == i) {
                    int digits = 0;
                    for (int t : whole) digits = 10 * digits + t;
                    return what == 0 ? digits : k;
                }
                many++;
            }
            return i == -1 ? many : BAD;
        }

        int order(int giving, int number) {
            if (!given(giving) || lineOf(givings.get(giving).people(), number) == null) return BAD;
            if (orders.contains(number) || !orders.isEmpty() && ordersOf != giving) return BAD;
            if (orders.size() == 6) return FULL;
            ordersOf = giving;
            orders.add(number);
            return orders.size();
        }
        int points(Ran r, int p) {
            int sum = 0;
            for (int t = 0; t < r.g.things(); t++) sum += r.has[p][t] * (8 - r.g.wishes.get(p).level(t));
            return sum;
        }
        int even() {
            if (orders.isEmpty()) return BAD;
            Given g = givings.get(ordersOf);
            int best = 0;
            for (int set = 1; set < 1 << orders.size(); set++) {
                Fraction least = null;
                for (int p = 0; p < g.people(); p++) {
                    int sum = 0;
                    for (int i = 0; i < orders.size(); i++)
                        if ((set >> i & 1) == 1) sum += points(play(g, lineOf(g.people(), orders.get(i)), false), p);
                    Fraction mean = new Fraction(sum, Integer.bitCount(set));
                    if (least == null || mean.against(least) < 0) least = mean;
                }
                int more = best == 0 ? 1 : least.against(evenIs);
                if (more > 0 || more == 0 && Integer.bitCount(set) < Integer.bitCount(best)) {
                    best = set;
                    evenIs = least;
                }
            }
            orders.clear();
            return best;
        }
        int evenIs(int what) {
            if (evenIs == null || what < 0 || what > 1) return BAD;
            return (int) (what == 0 ? evenIs.top : evenIs.bottom);
        }
        int swap(int giving, int what) {
            if (!given(giving) || what < 0 || what > 1) return BAD;
            Given g = givings.get(giving);
            int best = -1, least = 0;
            for (List<Integer> line : lines(g.people())) {
                Ran r = play(g, line, true);
                int most = -1, fewest = 9999;
                for (int p = 0; p < g.people(); p++) {
                    most = Math.max(most, points(r, p));
                    fewest = Math.min(fewest, points(r, p));
                }
                if (best < 0 || most - fewest < least) { best = number(line); least = most - fewest; }
            }
            return what == 0 ? best : least;
        }
        int years(int giving, int number, int n, int who) {
            if (!given(giving) || n < 1 || n > 9) return BAD;
            if (who != -1 && !person(giving, who)) return BAD;
            Given g = givings.get(giving);
            List<Integer> line = lineOf(g.people(), number);
            if (line == null) return BAD;
            int[] all = new int[g.people()];
            for (int year = 0; year < n; year++) {
                Ran r = play(g, line, false);
                for (int p = 0; p < g.people(); p++) all[p] += points(r, p);
                line.sort((a, b) -> Integer.compare(all[a], all[b]));
            }
            return who == -1 ? number(line) : all[who];
        }

        int act(int way, int act, int x) {
            trace.clear();
            if (kind(way) < 0 || act < 0 || act > 3) return 0;
            Thing thing = thing(kind(way), way);
            switch (act) {
                case 0: return thing.takes(x);
                case 1: return thing.leaves(x);
                case 2: return thing.likes(x);
                default: return thing.tells(x);
            }
        }
        Thing thing(int kind, int n) {
            switch (kind) {
                case 0: return new Thing(trace, n);
                case 1: return new Turns(trace, n);
                case 2: return new Back(trace, n);
                case 3: return new Eats(trace, n);
                case 4: return new Trades(trace, n);
                case 5: return new Tolds(trace, n);
                default: return new Mends(trace, n);
            }
        }
        int trace(int i) { return i >= 0 && i < trace.size() && i < 24 ? trace.get(i) : BAD; }

        int keep(int shelf, int way) {
            if (shelf < 0 || shelf > 5 || way != -1 && kind(way) < 0) return BAD;
            shelves[shelf] = way == -1 ? null : thing(kind(way), way);
            return 1;
        }
        int row(int shelf, int sort, int n) {
            if (shelf < 0 || shelf > 5 || sort < 0 || sort > 4 || n > 60) return BAD;
            try {
                shelves[shelf] = sort == 0 ? new byte[n] : sort == 1 ? new short[n] : sort == 2 ? new int[n]
                    : sort == 3 ? new long[n] : new boolean[n];
            } catch (NegativeArraySizeException e) { return -14; }
            return 1;
        }
        int put(int shelf, int i, long v) {
            if (shelf < 0 || shelf > 5) return BAD;
            Object o = shelves[shelf];
            try {
                if (o == null) return -11;
                if (o instanceof byte[]) ((byte[]) o)[i] = (byte) v;
                else if (o instanceof short[]) ((short[]) o)[i] = (short) v;
                else if (o instanceof int[]) ((int[]) o)[i] = (int) v;
                else if (o instanceof boolean[]) ((boolean[]) o)[i] = v != 0;
                else ((long[]) o)[i] = v;
            } catch (ClassCastException e) { return -12; } catch (ArrayIndexOutOfBoundsException e) { return -13; }
            return 1;
        }
        long element(int shelf, int i) {
            if (shelf < 0 || shelf > 5) return Long.MIN_VALUE;
            Object o = shelves[shelf];
            try {
                if (o == null) return Long.MIN_VALUE;
                if (o instanceof byte[]) return ((byte[]) o)[i];
                if (o instanceof short[]) return ((short[]) o)[i];
                if (o instanceof int[]) return ((int[]) o)[i];
                if (o instanceof boolean[]) return ((boolean[]) o)[i] ? 1 : 0;
                return ((long[]) o)[i];
            } catch (ClassCastException | ArrayIndexOutOfBoundsException e) { return Long.MIN_VALUE; }
        }
        int shift(int shelf, int i, int other, int j, int n) {
            if (shelf < 0 || shelf > 5 || other < 0 || other > 5) return BAD;
            try { System.arraycopy(shelves[shelf], i, shelves[other], j, n); }
            catch (NullPointerException e) { return -11; }
            catch (ArrayStoreException e) { return -12; }
            catch (IndexOutOfBoundsException e) { return -13; }
            return n;
        }
        int taken(int shelf, int k) {
            if (shelf < 0 || shelf > 5 || k < 0 || k > 6) return BAD;
            if (shelves[shelf] == null) return -11;
            Class<?>[] kinds = {Thing.class, Turns.class, Back.class, Eats.class, Trades.class, Tolds.class, Mends.class};
            if (!kinds[k].isInstance(shelves[shelf])) return -12;
            for (int i = 0; i < 7; i++) if (kinds[i] == shelves[shelf].getClass()) return i;
            return 888;
        }
        int count(int what) {
            int[] all = {givings.size(), ways.size(), tape.length(), orders.size(), trace.size()};
            return what >= 0 && what < 5 ? all[what] : BAD;
        }
    }

    // ---- the bodies of the acts, as Java itself would lead them

    interface Takes {
        int n();
        List<Integer> ran();
        default int takes(int x) { ran().add(1); return x + n(); }
    }
    interface Tells {
        List<Integer> ran();
        int leaves(int x);
        int likes(int x);
        default int tells(int x) { ran().add(2); return leaves(x) - likes(1); }
    }
    static class Thing implements Takes, Tells {
        final List<Integer> ran;
        final int n;
        Thing(List<Integer> ran, int n) { this.ran = ran; this.n = n; }
        public int n() { return n; }
        public List<Integer> ran() { return ran; }
        public int leaves(int x) { ran.add(10); return takes(x) * 2; }
        public int likes(int x) { ran.add(11); return x ^ n; }
    }
    static class Turns extends Thing {
        Turns(List<Integer> ran, int n) { super(ran, n); }
        public int takes(int x) { ran.add(20); return super.takes(x) - 1; }
    }
    static final class Back extends Turns {
        Back(List<Integer> ran, int n) { super(ran, n); }
        public int leaves(int x) { ran.add(30); return super.leaves(x) + takes(2); }
    }
    static final class Eats extends Thing {
        Eats(List<Integer> ran, int n) { super(ran, n); }
        public int likes(int x) { ran.add(40); return super.likes(x) * 3; }
    }
    static final class Trades extends Thing {
        Trades(List<Integer> ran, int n) { super(ran, n); }
        public int tells(int x) { ran.add(50); return super.tells(x) ^ 5; }
    }
    static class Tolds extends Thing {
        Tolds(List<Integer> ran, int n) { super(ran, n); }
        public int leaves(int x) { ran.add(60); return -super.leaves(x); }
    }
    static final class Mends extends Tolds {
        Mends(List<Integer> ran, int n) { super(ran, n); }
        public int likes(int x) { ran.add(70); return super.likes(x + 1); }
        public int leaves(int x) { ran.add(71); return super.leaves(x) - super.likes(x); }
    }

    // ---- the runs

    static final class Play {
        final int seed;
        final Random random;
        final TakenInTurns x = new TakenInTurns();
        final Model m = new Model();
        int made = 0;

        Play(int seed) { this.seed = seed; random = new Random(seed * 7919L); }

        int r(int n) { return random.nextInt(n); }
        void due(String call, long got, long want) {
            made++;
            // What is answered behind the 512th call is free.
            if (made > 512) return;
            calls++;
            if (got != want && wrong < 40) {
                wrong++;
                System.out.println("seed " + seed + ", call " + made + ": " + call + " answered " + got + ", due is " + want);
            }
        }

        void go() {
            int most = seed % 70 == 0 ? 8 : seed % 10 == 0 ? 6 : 4;
            for (int i = 0; i < 7; i++) {
                int kind = r(7);
                due("way " + kind, x.way(kind), m.way(kind));
            }
            tell(text(1 + r(most), 1 + r(Math.min(7, most))));
            due("giving", x.giving(), m.giving());
            look(0, 4);
            while (made < 500 && wrong < 20) {
                if (r(25) == 0) {
                    tell(r(3) == 0 ? spoilt(text(1 + r(most), 1 + r(Math.min(7, most)))) : text(1 + r(most), 1 + r(Math.min(7, most))));
                    int before = m.givings.size();
                    due("giving", x.giving(), m.giving());
                    if (m.givings.size() > before) look(before, 3 + r(2));
                } else if (r(30) == 0) {
                    instead();
                } else if (r(25) == 0) {
                    whole();
                } else {
                    one();
                }
            }
        }
        /** All shares of a giving by eating, or by trade. */
        void look(int g, int kind) {
            for (int way = 0; way < m.ways.size(); way++) {
                if (!m.given(g) || m.kind(way) != kind) continue;
                for (int p = 0; p < m.givings.get(g).people(); p++)
                    for (int t = 0; t < m.givings.get(g).things(); t++)
                        for (int side = 0; side < 2; side++)
                            due("share " + p + " " + t, x.share(g, way, 10 * p + t, side), m.share(g, way, 10 * p + t, side));
                return;
            }
        }
        void tell(String text) {
            for (int i = 0; i < text.length(); i += 4) {
                int n = Math.min(4, text.length() - i), v = 0;
                for (int k = 0; k < n; k++) v |= text.charAt(i + k) << (8 * k);
                due("feed " + text.substring(i, i + n), x.feed(n, v), m.feed(n, v));
            }
        }
        String text(int things, int people) {
            StringBuilder b = new StringBuilder();
            for (int t = 0; t < things; t++) b.append((char) ('a' + t)).append(r(3) == 0 ? 1 + r(9) : 1 + r(2));
            for (int p = 0; p < people; p++) b.append(';').append(list(things));
            return b.toString();
        }
        String list(int things) {
            StringBuilder b = new StringBuilder();
            if (r(3) == 0) b.append('*').append((char) ('a' + r(things)));
            if (r(8) == 0) return b.append('-').toString();
            List<Integer> all = new ArrayList<>();
            for (int t = 0; t < things; t++) all.add(t);
            java.util.Collections.shuffle(all, random);
            int n = r(3) == 0 ? 1 + r(things) : things;
            for (int i = 0; i < n; i++) {
                if (i > 0) b.append(r(3) == 0 ? '=' : '>');
                b.append((char) ('a' + all.get(i)));
            }
            return b.toString();
        }
        String spoilt(String text) {
            String signs = "abch019;>=-* \u00e9*;";
            int at = r(text.length() + 1);
            char c = signs.charAt(r(signs.length()));
            switch (r(4)) {
                case 0: return text.substring(0, at);
                case 1: return text.substring(0, at) + c + text.substring(at);
                case 2: return at < text.length() ? text.substring(0, at) + text.substring(at + 1) : text + c;
                default: return at < text.length() ? text.substring(0, at) + c + text.substring(at + 1) : text + c;
            }
        }
        void instead() {
            int g = g();
            int things = m.given(g) ? m.givings.get(g).things() : 3;
            String text = list(things);
            tell(r(3) == 0 ? spoilt(text) : text);
            int who = who(g);
            due("instead " + g + " " + who, x.instead(g, who), m.instead(g, who));
        }
        /** A table that comes of whole givings, so that it can be parted. */
        void whole() {
            int g = r(m.givings.size() + 1);
            if (!m.given(g)) return;
            Given given = m.givings.get(g);
            int[][] table = new int[given.people()][given.things()];
            int rest = 60;
            for (int tries = 0; tries < 200 && rest > 0; tries++) {
                int[] left = new int[given.things()];
                for (int t = 0; t < left.length; t++) left[t] = given.amounts.get(t);
                int[] whole = new int[given.people()];
                boolean fits = true;
                for (int p : m.lines(given.people()).get(0)) {
                    List<Integer> flat = given.wishes.get(p).flat();
                    java.util.Collections.shuffle(flat, random);
                    whole[p] = -1;
                    for (int t : flat) if (left[t] > 0) { whole[p] = t; left[t]--; break; }
                    fits &= whole[p] >= 0;
                }
                if (!fits) continue;
                int k = tries > 20 ? rest : 1 + r(Math.min(rest, 25));
                for (int p = 0; p < given.people(); p++) table[p][whole[p]] += k;
                rest -= k;
            }
            if (rest > 0) return;
            due("rounds", x.rounds(g, 1), m.rounds(g, 1));
            int n = given.people() * given.things();
            due("row", x.row(5, 0, n), m.row(5, 0, n));
            int i = 0;
            for (int[] row : table) for (int v : row) { due("put", x.put(5, i, v), m.put(5, i, v)); i++; }
            due("table", x.table(g, 5, 0), m.table(g, 5, 0));
            due("bars", x.bars(g), m.bars(g));
            int many = m.parted(g, -1, 0);
            due("parted -1", x.parted(g, -1, 0), many);
            for (int k = 0; k <= many; k++) {
                due("parted " + k, x.parted(g, k, 0), m.parted(g, k, 0));
                due("parted " + k + " weight", x.parted(g, k, 1), m.parted(g, k, 1));
            }
        }
        int odd(int v) { return r(20) == 0 ? new int[] {-1, -2, 7, 8, 100, Integer.MAX_VALUE, Integer.MIN_VALUE}[r(7)] : v; }
        int g() { return odd(r(m.givings.size() + (r(9) == 0 ? 2 : 0) + (m.givings.isEmpty() ? 1 : 0))); }
        int who(int g) { return odd(r(m.given(g) ? m.givings.get(g).people() : 2)); }
        int thing(int g) { return odd(r(m.given(g) ? m.givings.get(g).things() : 2)); }
        int way() { return odd(r(m.ways.size() + (r(9) == 0 ? 1 : 0))); }
        int side() { return odd(r(2)); }
        int line(int g) {
            List<Integer> all = new ArrayList<>();
            for (int p = 0; p < (m.given(g) ? m.givings.get(g).people() : 2); p++) all.add(p);
            java.util.Collections.shuffle(all, random);
            int n = m.number(all);
            return r(10) == 0 ? n + r(30) - 15 : odd(n);
        }
        int digits(int g, int who) {
            List<Integer> all = new ArrayList<>();
            for (int p = 0; p < (m.person(g, who) ? m.givings.get(g).wishes.get(who).flat().size() : 2); p++) all.add(p + 1);
            java.util.Collections.shuffle(all, random);
            int n = m.number(all);
            return r(10) == 0 ? n + r(30) - 15 : odd(n);
        }

        void one() {
            int g = g(), who = who(g), thing = thing(g), way = way(), other = way(), side = side(), line = line(g);
            int at = odd(10 * who + thing), i = odd(r(4) - 1), shelf = odd(r(6)), v = odd(r(70) - 4);
            int big = r(3) == 0 ? random.nextInt() : r(10) - 5;
            int digits = digits(g, who);
            String a = "(" + g + ", " + who + ", " + thing + ", way " + way + ", " + side + ", " + line + ", i " + i + ", " + digits + ")";
            switch (r(40)) {
                case 0: { int n = odd(r(6)); int w = random.nextInt(); if (r(4) == 0) due("feed", x.feed(n, w), m.feed(n, w)); return; }
                case 1: if (r(8) == 0) due("giving", x.giving(), m.giving()); return;
                case 2: { int what = odd(r(30)); due("of" + a + what, x.of(g, what), m.of(g, what)); return; }
                case 3: { int n = odd(r(5)); due("rounds" + a + n, x.rounds(g, n), m.rounds(g, n)); return; }
                case 4: due("level" + a, x.level(g, who, thing), m.level(g, who, thing)); return;
                case 5: due("listed" + a, x.listed(g, who, i), m.listed(g, who, i)); return;
                case 6: { int bits = odd(r(20)); due("takes" + a + bits, x.takes(g, who, bits), m.takes(g, who, bits)); return; }
                case 7: if (r(8) == 0) due("instead" + a, x.instead(g, who), m.instead(g, who)); return;
                case 8: due("run" + a, x.run(g, way, line), m.run(g, way, line)); return;
                case 9: due("has" + a, x.has(who, thing), m.has(who, thing)); return;
                case 10: due("left" + a, x.left(thing), m.left(thing)); return;
                case 11: due("led" + a, x.led(who, i, side), m.led(who, i, side)); return;
                case 12: due("ring" + a, x.ring(i), m.ring(i)); return;
                case 13: if (r(4) == 0) { int k = odd(r(8)); due("way" + k, x.way(k), m.way(k)); } return;
                case 14: due("kindOf" + a, x.kindOf(way), m.kind(way) < 0 ? BAD : m.kind(way)); return;
                case 15: case 16: due("share" + a + at, x.share(g, way, at, side), m.share(g, way, at, side)); return;
                case 17: due("stops" + a, x.stops(g), m.stops(g)); return;
                case 18: due("rather" + a + other, x.rather(g, who, way, other), m.rather(g, who, way, other)); return;
                case 19: due("envy" + a, x.envy(g, way), m.envy(g, way)); return;
                case 20: due("wrongly" + a, x.wrongly(g, who, way, digits), m.wrongly(g, who, way, digits)); return;
                case 21: if (dear(g, who, way)) due("gains" + a, x.gains(g, who, way), m.gains(g, who, way)); return;
                case 22: due("told" + a + at + " " + v, x.told(g, at, v), m.told(g, at, v)); return;
                case 23: due("table" + a + shelf, x.table(g, shelf, i), m.table(g, shelf, i)); return;
                case 24: due("bars" + a, x.bars(g), m.bars(g)); return;
                case 25: due("parted" + a, x.parted(g, i, side), m.parted(g, i, side)); return;
                case 26: due("order" + a, x.order(g, line), m.order(g, line)); return;
                case 27: if (r(4) == 0) due("even", x.even(), m.even()); return;
                case 28: due("evenIs" + a, x.evenIs(side), m.evenIs(side)); return;
                case 29: due("swap" + a, x.swap(g, side), m.swap(g, side)); return;
                case 30: { int n = odd(1 + r(10)), w = r(3) == 0 ? -1 : who; due("years" + a + n, x.years(g, line, n, w), m.years(g, line, n, w)); return; }
                case 31: { int act = odd(r(5)); due("act" + a + act + " " + big, x.act(way, act, big), m.act(way, act, big)); return; }
                case 32: { int n = odd(r(9)); due("trace" + n, x.trace(n), m.trace(n)); return; }
                case 33: { int w = r(3) == 0 ? -1 : way; due("keep" + w, x.keep(shelf, w), m.keep(shelf, w)); return; }
                case 34: { int sort = odd(r(3) == 0 ? r(6) : 0), n = odd(r(30)); due("row" + sort + " " + n, x.row(shelf, sort, n), m.row(shelf, sort, n)); return; }
                case 35: { int n = odd(r(20)); long w = r(2) == 0 ? v : random.nextLong(); due("put" + n + " " + w, x.put(shelf, n, w), m.put(shelf, n, w)); return; }
                case 36: { int n = odd(r(20)); due("element" + n, x.element(shelf, n), m.element(shelf, n)); return; }
                case 37: { int to = odd(r(6)), j = odd(r(9)), n = odd(r(9)), from = odd(r(9)); due("shift" + shelf + " " + from + " " + to + " " + j + " " + n, x.shift(shelf, from, to, j, n), m.shift(shelf, from, to, j, n)); return; }
                case 38: { int k = odd(r(7)); due("taken" + k, x.taken(shelf, k), m.taken(shelf, k)); return; }
                default: { int what = odd(r(6)); due("count" + what, x.count(what), m.count(what)); return; }
            }
        }
        /** The model tries all lists over all orders; of what would take too long only some is asked. */
        boolean dear(int g, int who, int way) {
            if (!m.person(g, who)) return true;
            int people = m.givings.get(g).people(), n = m.givings.get(g).wishes.get(who).flat().size();
            return people <= 4 && n <= 4 || n > 5 || m.kind(way) == 3 || r(20) == 0;
        }
    }
}
