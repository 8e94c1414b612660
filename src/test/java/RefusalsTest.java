import java.util.ArrayList;
import java.util.List;

/** Of each refused call: what it answers, and that all that can be seen then is as if it had not been made. */
public final class RefusalsTest {
    private static final int BAD = -1, NOT = -2, FULL = -3, STATE = -5, VOID = -2000000000;
    private static final int WAY = 0, TURNS = 1, BACK = 2, EATING = 3, TRADE = 4, TOLD = 5, MEND = 6;
    private static int wrong = 0;
    private static String boundary = "";
    private static Made made;
    private static int madeGivings;
    private static List<Long> seenAll, seenRun;

    private interface Call {
        long on(TakenInTurns x);
    }

    private interface Made {
        TakenInTurns now();
    }

    public static void main(String[] args) {
        refusals();
        fullRefusals();
        freshRefusals();
        System.out.println(wrong == 0 ? "what is refused changes nothing" : wrong + " rows are not as due");
        if (wrong != 0) {
            System.exit(1);
        }
    }

    private static void due(String call, long got, long want) {
        if (got != want) {
            wrong++;
            System.out.println(boundary + ": " + call + " answered " + got + ", due is " + want);
        }
    }

    private static void tell(TakenInTurns x, String text) {
        for (int i = 0; i < text.length(); i += 4) {
            int n = Math.min(4, text.length() - i);
            int v = 0;
            for (int k = 0; k < n; k++) {
                v |= text.charAt(i + k) << 8 * k;
            }
            x.feed(n, v);
        }
    }

    private static int giving(TakenInTurns x, String text) {
        tell(x, text);
        return x.giving();
    }

    private static void table(TakenInTurns x, int giving, int[]... parts) {
        for (int who = 0; who < parts.length; who++) {
            for (int thing = 0; thing < parts[who].length; thing++) {
                x.told(giving, 10 * who + thing, parts[who][thing]);
            }
        }
    }

    /** Something of everything: a tape begun, tables, a latest run, orders told, an even, an act, shelves of each sort. */
    private static TakenInTurns busy() {
        TakenInTurns x = new TakenInTurns();
        giving(x, "a2b1c1;*aa>b=c;*ac>a;b>a;-");
        giving(x, "a1b1;a>b;a");
        for (int kind = 0; kind < 7; kind++) {
            x.way(kind);
        }
        x.rounds(0, 2);
        table(x, 0, new int[][] {{30, 20, 10}, {60, 0, 1}, {0, 60, 0}, {0, 0, 0}});
        table(x, 1, new int[][] {{0, 60}, {60, 0}});
        x.order(1, 10);
        x.order(1, 1);
        x.even();
        x.order(0, 123);
        x.order(0, 3210);
        x.run(0, BACK, 2103);
        x.act(BACK, 3, 5);
        x.row(0, 0, 5);
        x.put(0, 1, 61);
        x.put(0, 0, 60);
        x.row(1, 2, 3);
        x.put(1, 2, -7);
        x.row(2, 4, 0);
        x.keep(3, MEND);
        x.row(4, 3, 60);
        x.put(4, 59, Long.MAX_VALUE);
        tell(x, "*cb>a");
        return x;
    }

    /** All of it as much as may be. */
    private static TakenInTurns full() {
        TakenInTurns x = new TakenInTurns();
        for (int i = 0; i < 5; i++) {
            giving(x, "a1b1c1d1;a;b;c;" + (i % 2 == 0 ? "d" : "*d-"));
        }
        for (int i = 0; i < 15; i++) {
            x.way(i % 7);
        }
        for (int order : new int[] {123, 132, 213, 231, 312, 321}) {
            x.order(4, order);
        }
        x.run(4, TURNS, 123);
        for (int i = 0; i < 30; i++) {
            x.feed(4, 0x613b3161);
        }
        return x;
    }

    private static void lookAtAll(TakenInTurns x, List<Long> seen, int givings) {
        for (int what = 0; what < 5; what++) {
            seen.add((long) x.count(what));
        }
        for (int g = 0; g < givings; g++) {
            int people = x.of(g, 0), things = x.of(g, 1);
            seen.add((long) x.of(g, 2));
            seen.add((long) x.bars(g));
            seen.add((long) x.parted(g, -1, 0));
            seen.add((long) x.stops(g));
            for (int who = 0; who < people; who++) {
                seen.add((long) x.of(g, 20 + who));
                for (int thing = 0; thing < things; thing++) {
                    seen.add((long) x.level(g, who, thing));
                    seen.add(x.share(g, TOLD, 10 * who + thing, 0));
                    seen.add(x.share(g, TOLD, 10 * who + thing, 1));
                    seen.add(x.share(g, TRADE, 10 * who + thing, 0));
                }
            }
        }
    }

    private static void lookAtRun(TakenInTurns x, List<Long> seen) {
        for (int who = 0; who < 5; who++) {
            for (int thing = 0; thing < 5; thing++) {
                seen.add((long) x.has(who, thing));
            }
            for (int i = 0; i < 4; i++) {
                seen.add((long) x.led(who, i, 0));
                seen.add((long) x.led(who, i, 1));
            }
        }
        for (int thing = 0; thing < 5; thing++) {
            seen.add((long) x.left(thing));
        }
        seen.add((long) x.ring(-1));
        seen.add((long) x.evenIs(0));
        seen.add((long) x.evenIs(1));
        for (int i = 0; i < 9; i++) {
            seen.add((long) x.trace(i));
        }
        for (int way = 0; way <= 15; way++) {
            seen.add((long) x.kindOf(way));
        }
        for (int shelf = 0; shelf < 6; shelf++) {
            seen.add((long) x.taken(shelf, 0));
            seen.add((long) x.put(shelf, 60, 0));
            for (int i = 0; i < 6; i++) {
                seen.add(x.element(shelf, i));
            }
            seen.add(x.element(shelf, 59));
        }
        seen.add((long) x.shift(0, 0, 1, 0, 0));
        seen.add((long) x.shift(0, 5, 0, 0, 0));
        seen.add((long) x.shift(1, 3, 1, 0, 0));
        seen.add((long) x.shift(4, 60, 4, 0, 0));
        seen.add((long) x.even());
        seen.add((long) x.evenIs(0));
        int made = x.instead(0, 3);
        seen.add((long) made);
        seen.add((long) x.of(made, 23));
        seen.add((long) x.listed(made, 3, -1));
        seen.add((long) x.listed(made, 3, 0));
        seen.add((long) x.count(2));
        seen.add((long) x.giving());
    }

    private static List<Long> seenOf(Made made, Call ahead, boolean first, int givings) {
        TakenInTurns x = made.now();
        if (ahead != null) {
            ahead.on(x);
        }
        List<Long> seen = new ArrayList<>();
        if (first) {
            lookAtAll(x, seen, givings);
        } else {
            lookAtRun(x, seen);
        }
        return seen;
    }

    private static void from(String what, Made some, int givings) {
        boundary = what;
        made = some;
        madeGivings = givings;
        seenAll = seenOf(some, null, true, givings);
        seenRun = seenOf(some, null, false, givings);
    }

    /** The call is answered so, and all that can be seen then is as if it had not been made. */
    private static void refused(String name, long want, Call call) {
        due(name, call.on(made.now()), want);
        List<Long> all = seenOf(made, call, true, madeGivings), run = seenOf(made, call, false, madeGivings);
        due(name + " changes something, first at", firstUnlike(all, seenAll), -1);
        due(name + " changes something, first at", firstUnlike(run, seenRun), -1);
    }

    private static int firstUnlike(List<Long> a, List<Long> b) {
        for (int i = 0; i < Math.max(a.size(), b.size()); i++) {
            if (i >= a.size() || i >= b.size() || !a.get(i).equals(b.get(i))) {
                return i;
            }
        }
        return -1;
    }

    private static void refusals() {
        from("what is refused changes nothing", RefusalsTest::busy, 2);
        refused("feed(0)", BAD, x -> x.feed(0, 1));
        refused("feed(5)", BAD, x -> x.feed(5, 1));
        refused("of", VOID, x -> x.of(2, 0));
        refused("rounds(0, 0)", BAD, x -> x.rounds(0, 0));
        refused("rounds(0, 4)", BAD, x -> x.rounds(0, 4));
        refused("rounds(2, 1)", BAD, x -> x.rounds(2, 1));
        refused("level", VOID, x -> x.level(0, 0, 3));
        refused("listed", BAD, x -> x.listed(0, 0, 3));
        refused("takes, nothing", NOT, x -> x.takes(0, 3, 7));
        refused("takes", BAD, x -> x.takes(0, 4, 7));
        refused("instead(2, 0)", BAD, x -> x.instead(2, 0));
        refused("instead(0, 4)", BAD, x -> x.instead(0, 4));
        refused("instead(0, -1)", BAD, x -> x.instead(0, -1));
        refused("run, no order", BAD, x -> x.run(0, TURNS, 1123));
        refused("run, an order of too few", BAD, x -> x.run(0, TURNS, 12));
        refused("run, no such way", BAD, x -> x.run(0, 7, 123));
        refused("run, another kind", BAD, x -> x.run(0, EATING, 123));
        refused("run, no order of another giving", BAD, x -> x.run(1, TURNS, 11));
        refused("run, too great an order of another giving", BAD, x -> x.run(1, TURNS, 123));
        refused("run, another giving and another kind", BAD, x -> x.run(1, TOLD, 1));
        refused("run, no giving", BAD, x -> x.run(2, TURNS, 123));
        refused("has", BAD, x -> x.has(4, 0));
        refused("left", BAD, x -> x.left(3));
        refused("led", BAD, x -> x.led(0, 2, 0));
        refused("ring(-1)", NOT, x -> x.ring(-1));
        refused("ring(0)", BAD, x -> x.ring(0));
        refused("way(7)", BAD, x -> x.way(7));
        refused("way(-1)", BAD, x -> x.way(-1));
        refused("kindOf", BAD, x -> x.kindOf(7));
        refused("share", BAD, x -> x.share(0, TURNS, 40, 0));
        refused("stops", BAD, x -> x.stops(2));
        refused("rather", VOID, x -> x.rather(0, 0, 0, 7));
        refused("envy, none", NOT, x -> x.envy(0, WAY));
        refused("envy", BAD, x -> x.envy(0, 7));
        refused("wrongly", VOID, x -> x.wrongly(0, 0, TURNS, 12));
        refused("wrongly by BACK", VOID, x -> x.wrongly(0, 0, BACK, 123));
        refused("gains", BAD, x -> x.gains(0, 0, BACK));
        refused("told(0, 0, 61)", BAD, x -> x.told(0, 0, 61));
        refused("told(0, 0, -1)", BAD, x -> x.told(0, 0, -1));
        refused("told(0, 3, 1)", BAD, x -> x.told(0, 3, 1));
        refused("told(0, 40, 1)", BAD, x -> x.told(0, 40, 1));
        refused("told(2, 0, 1)", BAD, x -> x.told(2, 0, 1));
        refused("table, a row of ints", -12, x -> x.table(0, 1, 0));
        refused("table, a way", -12, x -> x.table(0, 3, 0));
        refused("table, no shelf", BAD, x -> x.table(0, 6, 0));
        refused("table, no giving", BAD, x -> x.table(2, 0, 0));
        refused("table, nothing there", 0, x -> x.table(0, 5, 0));
        refused("table, beyond the row", 0, x -> x.table(0, 0, 5));
        refused("table, ahead of the row", 0, x -> x.table(0, 0, -1));
        refused("table, none of 0 .. 60", 0, x -> x.table(0, 0, 1));
        refused("bars", BAD, x -> x.bars(2));
        refused("parted", STATE, x -> x.parted(0, -1, 0));
        refused("parted, no such one", BAD, x -> x.parted(1, 9, 0));
        refused("order, told", BAD, x -> x.order(0, 123));
        refused("order, of another giving", BAD, x -> x.order(1, 10));
        refused("order, none", BAD, x -> x.order(0, 12));
        refused("evenIs", BAD, x -> x.evenIs(2));
        refused("swap", BAD, x -> x.swap(0, 2));
        refused("years", BAD, x -> x.years(0, 123, 10, 0));
        refused("trace", BAD, x -> x.trace(8));
        refused("keep(0, 7)", BAD, x -> x.keep(0, 7));
        refused("keep(6, 0)", BAD, x -> x.keep(6, 0));
        refused("keep(0, -2)", BAD, x -> x.keep(0, -2));
        shelfRefusals();
        asked();
    }

    /** Nor does what only asks for something change anything. */
    private static void asked() {
        Call[] calls = {x -> x.of(0, 20), x -> x.level(1, 0, 1), x -> x.listed(0, 0, 1), x -> x.takes(0, 0, 3), x -> x.has(0, 0),
            x -> x.left(0), x -> x.led(0, 0, 0), x -> x.kindOf(6), x -> x.share(1, TURNS, 0, 0), x -> x.share(1, BACK, 0, 1),
            x -> x.share(1, MEND, 0, 1), x -> x.stops(1), x -> x.rather(1, 0, TURNS, EATING), x -> x.envy(1, TOLD),
            x -> x.wrongly(0, 0, TURNS, 321), x -> x.wrongly(0, 0, EATING, 321), x -> x.gains(0, 0, TURNS), x -> x.gains(0, 0, EATING),
            x -> x.bars(1), x -> x.parted(1, 0, 0), x -> x.evenIs(0), x -> x.swap(0, 0), x -> x.swap(1, 1), x -> x.years(0, 123, 9, -1),
            x -> x.years(1, 1, 9, 0), x -> x.trace(0), x -> x.element(0, 0), x -> x.taken(3, 0), x -> x.count(2)};
        for (int i = 0; i < calls.length; i++) {
            refused("question " + i, calls[i].on(made.now()), calls[i]);
        }
    }

    private static void shelfRefusals() {
        refused("row, no sort", BAD, x -> x.row(0, 5, 1));
        refused("row, too many", BAD, x -> x.row(0, 0, 61));
        refused("row, below 0", -14, x -> x.row(0, 0, -1));
        refused("row, no shelf", BAD, x -> x.row(6, 0, 1));
        refused("put, nothing there", -11, x -> x.put(5, 0, 1));
        refused("put, a way", -12, x -> x.put(3, 0, 1));
        refused("put, behind the last", -13, x -> x.put(0, 5, 1));
        refused("put, ahead of the first", -13, x -> x.put(0, -1, 1));
        refused("put, an empty row", -13, x -> x.put(2, 0, 1));
        refused("put, no shelf", BAD, x -> x.put(6, 0, 1));
        refused("element", Long.MIN_VALUE, x -> x.element(0, 5));
        refused("shift, nothing there", -11, x -> x.shift(0, 0, 5, 0, 1));
        refused("shift, a way", -12, x -> x.shift(0, 0, 3, 0, 1));
        refused("shift, unlike sorts", -12, x -> x.shift(0, 0, 4, 0, 1));
        refused("shift, too many", -13, x -> x.shift(0, 0, 0, 1, 5));
        refused("shift, below 0", -13, x -> x.shift(0, 0, 0, 1, -1));
        refused("shift, no shelf", BAD, x -> x.shift(0, 0, 6, 0, 1));
        refused("taken, nothing there", -11, x -> x.taken(5, 0));
        refused("taken, another kind", -12, x -> x.taken(3, 1));
        refused("taken, no kind", BAD, x -> x.taken(3, 7));
        refused("count", BAD, x -> x.count(5));
    }

    private static void fullRefusals() {
        from("what is FULL changes nothing", RefusalsTest::full, 5);
        for (int n = 1; n <= 4; n++) {
            int bytes = n;
            refused("feed(" + n + ")", FULL, x -> x.feed(bytes, 0x31313131));
        }
        refused("giving", FULL, x -> x.giving());
        refused("instead(4, 3)", FULL, x -> x.instead(4, 3));
        refused("instead(5, 3)", BAD, x -> x.instead(5, 3));
        refused("way(0)", FULL, x -> x.way(0));
        refused("way(6)", FULL, x -> x.way(6));
        refused("order", FULL, x -> x.order(4, 1023));
        refused("order, told", BAD, x -> x.order(4, 321));
        refused("order, of another giving", BAD, x -> x.order(0, 1023));
    }

    private static void freshRefusals() {
        from("what is refused by a new object changes nothing", TakenInTurns::new, 0);
        refused("even", BAD, x -> x.even());
        refused("evenIs", BAD, x -> x.evenIs(0));
        refused("order", BAD, x -> x.order(0, 0));
        refused("run", BAD, x -> x.run(0, 0, 0));
        refused("giving", -100, x -> x.giving());
        refused("instead", BAD, x -> x.instead(0, 0));
        refused("keep", BAD, x -> x.keep(0, 0));
        refused("act", 0, x -> x.act(0, 0, 0));
        refused("shift", -11, x -> x.shift(0, 0, 1, 0, 0));
    }
}
