import java.util.Arrays;

/** Things taken in turns, shared, traded, parted and told; ../shared/DOC.md says what each call does. */
public final class TakenInTurns {
    public static final int BAD = -1, NOT = -2, FULL = -3, BIG = -4, STATE = -5, VOID = -2000000000;

    private static final int NOTHING_THERE = -11, OTHER_KIND = -12, NO_PLACE = -13, BELOW_ZERO = -14;
    private static final int FAULTS = -100;
    private static final int MOST_GIVINGS = 5, MOST_WAYS = 15, MOST_SHELVES = 6, MOST_YEARS = 9;
    private static final int MOST_PEOPLE = 7, MOST_THINGS = 8, MOST_ROUNDS = 3, MOST_GAINS = 5;
    private static final int MOST_LINES = 40320;
    private static final int CELLS = MOST_PEOPLE * MOST_THINGS;
    private static final int SIXTIETHS = 60;
    private static final int MANY = 1000000;
    private static final long NO_ELEMENT = -9223372036854775808L;
    private static final int WAY = 0, TURNS = 1, BACK = 2, EATING = 3, TRADE = 4, TOLD = 5, MEND = 6, KINDS = 7;
    private static final int[] ABOVE = {-1, 0, 1, 0, 0, 0, 5};

    private final Tape tape;
    private final Giving[] givings;
    private int givingCount;
    private final Giving otherwise;
    private final int[] kinds;
    private int wayCount;
    private final Hand latest;
    private Giving latestGiving;
    private final Rings rings;
    private final Hand trial;
    private final int[] line;
    private final int[] places;
    private final long[] totals;
    private final Eating eating;
    private final Trade trade;
    private final Parting parting;
    private final Evens evens;
    private final Acts acts;
    private final Shelf[] shelves;

    public TakenInTurns() {
        tape = new Tape();
        givings = new Giving[MOST_GIVINGS];
        for (int i = 0; i < MOST_GIVINGS; i++) {
            givings[i] = new Giving();
        }
        otherwise = new Giving();
        kinds = new int[MOST_WAYS];
        latest = new Hand();
        rings = new Rings();
        trial = new Hand();
        line = new int[MOST_PEOPLE];
        places = new int[MOST_THINGS];
        totals = new long[MOST_PEOPLE];
        eating = new Eating();
        trade = new Trade();
        parting = new Parting();
        evens = new Evens();
        acts = new Acts();
        shelves = new Shelf[MOST_SHELVES];
        for (int i = 0; i < MOST_SHELVES; i++) {
            shelves[i] = new Shelf();
        }
    }

    // ---- givings

    public int feed(int n, int v) {
        if (n < 1 || n > 4) {
            return BAD;
        }
        if (tape.length + n > Tape.MOST_BYTES) {
            return FULL;
        }
        for (int i = 0; i < n; i++) {
            tape.add((v >>> (8 * i)) & 255);
        }
        return tape.length;
    }

    public int giving() {
        if (givingCount >= MOST_GIVINGS) {
            return FULL;
        }
        boolean read = tape.readGiving(givings[givingCount]);
        tape.length = 0;
        if (!read) {
            return FAULTS - tape.place;
        }
        givingCount++;
        return givingCount - 1;
    }

    public int of(int giving, int what) {
        if (!isGiving(giving)) {
            return VOID;
        }
        Giving g = givings[giving];
        if (what >= 20) {
            return isPerson(g, what - 20) ? g.held[what - 20] : VOID;
        }
        if (what >= 10) {
            return isThing(g, what - 10) ? g.amount[what - 10] : VOID;
        }
        switch (what) {
            case 0:
                return g.people;
            case 1:
                return g.things;
            case 2:
                return g.rounds;
            default:
                return VOID;
        }
    }

    public int rounds(int giving, int n) {
        if (!isGiving(giving) || n < 1 || n > MOST_ROUNDS) {
            return BAD;
        }
        Giving g = givings[giving];
        int before = g.rounds;
        if (n != before) {
            g.rounds = n;
            g.forgetAll();
        }
        return before;
    }

    public int level(int giving, int who, int thing) {
        if (!isGiving(giving) || !isPerson(givings[giving], who) || !isThing(givings[giving], thing)) {
            return VOID;
        }
        return givings[giving].levels[who][thing];
    }

    public int listed(int giving, int who, int i) {
        if (!isGiving(giving) || !isPerson(givings[giving], who)) {
            return BAD;
        }
        Giving g = givings[giving];
        if (i == -1) {
            return g.size[who];
        }
        return i >= 0 && i < g.size[who] ? g.list[who][i] : BAD;
    }

    public int takes(int giving, int who, int left) {
        if (!isGiving(giving) || !isPerson(givings[giving], who)) {
            return BAD;
        }
        Giving g = givings[giving];
        if (left < 0 || left >= 1 << g.things) {
            return BAD;
        }
        int thing = g.firstOf(who, left);
        return thing < 0 ? NOT : thing;
    }

    public int instead(int giving, int who) {
        if (!isGiving(giving) || !isPerson(givings[giving], who)) {
            return BAD;
        }
        if (givingCount >= MOST_GIVINGS) {
            return FULL;
        }
        Giving g = givings[givingCount];
        g.become(givings[giving]);
        boolean read = tape.readInstead(g, who);
        tape.length = 0;
        if (!read) {
            return FAULTS - tape.place;
        }
        givingCount++;
        return givingCount - 1;
    }

    // ---- runs

    public int run(int giving, int way, int order) {
        int kind = kindAt(way);
        if (!isGiving(giving) || kind != TURNS && kind != BACK) {
            return BAD;
        }
        Giving g = givings[giving];
        if (!readLine(order, g.people, 0, line)) {
            return BAD;
        }
        latest.deal(g, line, kind == BACK);
        latestGiving = g;
        rings.forget();
        return 1;
    }

    public int has(int who, int thing) {
        if (latestGiving == null || !isPerson(latestGiving, who) || !isThing(latestGiving, thing)) {
            return BAD;
        }
        return latest.countOf(who, thing);
    }

    public int left(int thing) {
        if (latestGiving == null || !isThing(latestGiving, thing)) {
            return BAD;
        }
        return latest.left[thing];
    }

    public int led(int who, int i, int what) {
        if (latestGiving == null || !isPerson(latestGiving, who) || isNoSide(what)) {
            return BAD;
        }
        if (i < 0 || i >= latest.got[who]) {
            return BAD;
        }
        return what == 0 ? latest.turnOf[who][i] : latest.thingOf[who][i];
    }

    public int ring(int i) {
        if (latestGiving == null || i < -1) {
            return BAD;
        }
        rings.find(latestGiving, latest);
        if (i == -1) {
            return rings.size == 0 ? NOT : rings.size;
        }
        return i < rings.size ? 10 * rings.who[i] + rings.given[i] : BAD;
    }

    // ---- shares

    public int way(int kind) {
        if (kind < 0 || kind >= KINDS) {
            return BAD;
        }
        if (wayCount >= MOST_WAYS) {
            return FULL;
        }
        kinds[wayCount] = kind;
        wayCount++;
        return wayCount - 1;
    }

    public int kindOf(int way) {
        return kindAt(way);
    }

    public long share(int giving, int way, int at, int what) {
        int kind = kindAt(way);
        if (!isGiving(giving) || kind < 0 || !isCell(givings[giving], at) || isNoSide(what)) {
            return BAD;
        }
        Shares shares = sharesOf(givings[giving], kind);
        if (shares.big) {
            return BIG;
        }
        long top = shares.top[at / 10 * MOST_THINGS + at % 10];
        long common = commonOf(top, shares.bottom);
        return (what == 0 ? top : shares.bottom) / common;
    }

    public int stops(int giving) {
        if (!isGiving(giving)) {
            return BAD;
        }
        Shares shares = sharesOf(givings[giving], EATING);
        return shares.big ? BIG : shares.halts;
    }

    public int rather(int giving, int who, int way, int other) {
        int kind = kindAt(way);
        int otherKind = kindAt(other);
        if (!isGiving(giving) || !isPerson(givings[giving], who) || kind < 0 || otherKind < 0) {
            return VOID;
        }
        Giving g = givings[giving];
        Shares one = sharesOf(g, kind);
        Shares two = sharesOf(g, otherKind);
        if (one.big || two.big) {
            return VOID;
        }
        return compareRows(g, who, one, who, two, who);
    }

    public int envy(int giving, int way) {
        int kind = kindAt(way);
        if (!isGiving(giving) || kind < 0) {
            return BAD;
        }
        Giving g = givings[giving];
        Shares shares = sharesOf(g, kind);
        if (shares.big) {
            return BIG;
        }
        for (int i = 0; i < g.people; i++) {
            for (int j = 0; j < g.people; j++) {
                if (j != i && compareRows(g, i, shares, j, shares, i) == 1) {
                    return 10 * i + j;
                }
            }
        }
        return NOT;
    }

    public int wrongly(int giving, int who, int way, int digits) {
        if (!isGiving(giving) || !isPerson(givings[giving], who) || !isToldWrongly(way)) {
            return VOID;
        }
        Giving g = givings[giving];
        if (!readLine(digits, g.size[who], 1, places)) {
            return VOID;
        }
        return compareOtherwise(g, who, kindAt(way));
    }

    public int gains(int giving, int who, int way) {
        if (!isGiving(giving) || !isPerson(givings[giving], who) || !isToldWrongly(way)) {
            return BAD;
        }
        Giving g = givings[giving];
        int size = g.size[who];
        if (size > MOST_GAINS) {
            return BIG;
        }
        int kind = kindAt(way);
        // With one turn each, the best that is left in each order is never worse than what another list takes.
        if (kind == TURNS && g.rounds == 1) {
            return NOT;
        }
        firstLine(places, size);
        for (int i = 0; i < MOST_LINES; i++) {
            int found = compareOtherwise(g, who, kind);
            if (found == VOID) {
                return BIG;
            }
            if (found == 1) {
                return numberOf(places, size, 1);
            }
            if (!nextLine(places, size)) {
                return NOT;
            }
        }
        return NOT;
    }

    // ---- tables

    public int told(int giving, int at, int v) {
        if (!isGiving(giving) || !isCell(givings[giving], at) || v < 0 || v > SIXTIETHS) {
            return BAD;
        }
        Giving g = givings[giving];
        int before = g.parts[at / 10][at % 10];
        g.parts[at / 10][at % 10] = v;
        forgetTable(g);
        return before;
    }

    public int table(int giving, int shelf, int i) {
        if (!isGiving(giving) || !isShelf(shelf)) {
            return BAD;
        }
        Shelf from = shelves[shelf];
        if (from.holding == Shelf.NOTHING) {
            return 0;
        }
        if (from.holding != Shelf.ROW || from.sort != Shelf.BYTES) {
            return OTHER_KIND;
        }
        Giving g = givings[giving];
        int came = 0;
        for (int k = 0; k < g.people * g.things; k++) {
            long place = (long) i + k;
            if (!from.hasRoom(place, 1) || !Giving.isPart(from.cells[(int) place])) {
                break;
            }
            g.parts[k / g.things][k % g.things] = (int) from.cells[(int) place];
            came++;
        }
        forgetTable(g);
        return came;
    }

    public int bars(int giving) {
        return isGiving(giving) ? givings[giving].barring() : BAD;
    }

    public int parted(int giving, int i, int what) {
        if (!isGiving(giving) || i < -1 || isNoSide(what)) {
            return BAD;
        }
        Giving g = givings[giving];
        if (!g.canBeParted()) {
            return STATE;
        }
        parting.split(g);
        if (i == -1) {
            return parting.size;
        }
        if (i >= parting.size) {
            return BAD;
        }
        return what == 0 ? parting.digits[i] : parting.weight[i];
    }

    // ---- even, years

    public int order(int giving, int order) {
        if (!isGiving(giving) || evens.size > 0 && evens.giving != giving) {
            return BAD;
        }
        if (!readLine(order, givings[giving].people, 0, line) || evens.isTold(order)) {
            return BAD;
        }
        if (evens.size >= Evens.MOST) {
            return FULL;
        }
        evens.add(giving, order);
        return evens.size;
    }

    public int even() {
        if (evens.size < 1 || !isGiving(evens.giving)) {
            return BAD;
        }
        Giving g = givings[evens.giving];
        for (int i = 0; i < evens.size; i++) {
            if (readLine(evens.orders[i], g.people, 0, line)) {
                trial.deal(g, line, false);
                evens.keepPoints(i, g, trial);
            }
        }
        return evens.choose(g.people);
    }

    public int evenIs(int what) {
        if (evens.bottom == 0 || isNoSide(what)) {
            return BAD;
        }
        return what == 0 ? evens.top : evens.bottom;
    }

    public int swap(int giving, int what) {
        if (!isGiving(giving) || isNoSide(what)) {
            return BAD;
        }
        Giving g = givings[giving];
        if (!g.swapped) {
            findSwap(g);
        }
        return what == 0 ? g.swapOrder : g.swapGap;
    }

    public int years(int giving, int order, int n, int who) {
        if (!isGiving(giving) || n < 1 || n > MOST_YEARS) {
            return BAD;
        }
        Giving g = givings[giving];
        if (who != -1 && !isPerson(g, who) || !readLine(order, g.people, 0, line)) {
            return BAD;
        }
        Arrays.fill(totals, 0);
        for (int year = 0; year < n; year++) {
            trial.deal(g, line, false);
            for (int i = 0; i < g.people; i++) {
                totals[i] += trial.pointsOf(g, i);
            }
            fewestFirst(g.people);
        }
        return who == -1 ? numberOf(line, g.people, 0) : (int) totals[who];
    }

    // ---- acts, shelves

    public int act(int way, int act, int x) {
        int kind = kindAt(way);
        acts.clear();
        if (kind < 0 || act < 0 || act >= Acts.ACTS) {
            return 0;
        }
        return acts.perform(kind, way, act, x);
    }

    public int trace(int i) {
        return i >= 0 && i < Acts.KEPT && i < acts.ran ? acts.kept[i] : BAD;
    }

    public int keep(int shelf, int way) {
        if (!isShelf(shelf) || way != -1 && kindAt(way) < 0) {
            return BAD;
        }
        shelves[shelf].keepKind(kindAt(way));
        return 1;
    }

    public int row(int shelf, int sort, int n) {
        if (!isShelf(shelf) || sort < 0 || sort >= Shelf.SORTS || n > Shelf.MOST_CELLS) {
            return BAD;
        }
        if (n < 0) {
            return BELOW_ZERO;
        }
        shelves[shelf].keepRow(sort, n);
        return 1;
    }

    public int put(int shelf, int i, long v) {
        int refusal = refusalAt(shelf, i);
        if (refusal != 0) {
            return refusal;
        }
        shelves[shelf].write(i, v);
        return 1;
    }

    public long element(int shelf, int i) {
        return refusalAt(shelf, i) != 0 ? NO_ELEMENT : shelves[shelf].cells[i];
    }

    public int shift(int shelf, int i, int other, int j, int n) {
        if (!isShelf(shelf) || !isShelf(other)) {
            return BAD;
        }
        Shelf from = shelves[shelf];
        Shelf to = shelves[other];
        if (from.holding == Shelf.NOTHING || to.holding == Shelf.NOTHING) {
            return NOTHING_THERE;
        }
        if (from.holding != Shelf.ROW || to.holding != Shelf.ROW || from.sort != to.sort) {
            return OTHER_KIND;
        }
        if (!from.hasRoom(i, n) || !to.hasRoom(j, n)) {
            return NO_PLACE;
        }
        System.arraycopy(from.cells, i, to.cells, j, n);
        return n;
    }

    public int taken(int shelf, int k) {
        if (!isShelf(shelf) || k < 0 || k >= KINDS) {
            return BAD;
        }
        Shelf from = shelves[shelf];
        if (from.holding == Shelf.NOTHING) {
            return NOTHING_THERE;
        }
        if (from.holding != Shelf.KIND || !isUnder(from.kind, k)) {
            return OTHER_KIND;
        }
        return from.kind;
    }

    public int count(int what) {
        switch (what) {
            case 0:
                return givingCount;
            case 1:
                return wayCount;
            case 2:
                return tape.length;
            case 3:
                return evens.size;
            case 4:
                return acts.ran;
            default:
                return BAD;
        }
    }

    // ---- what the calls have in common

    private boolean isGiving(int giving) {
        return giving >= 0 && giving < givingCount;
    }

    private static boolean isPerson(Giving g, int who) {
        return who >= 0 && who < g.people;
    }

    private static boolean isThing(Giving g, int thing) {
        return thing >= 0 && thing < g.things;
    }

    private static boolean isCell(Giving g, int at) {
        return at >= 0 && isPerson(g, at / 10) && isThing(g, at % 10);
    }

    private static boolean isShelf(int shelf) {
        return shelf >= 0 && shelf < MOST_SHELVES;
    }

    private static boolean isNoSide(int what) {
        return what != 0 && what != 1;
    }

    private int kindAt(int way) {
        return way >= 0 && way < wayCount ? kinds[way] : BAD;
    }

    private boolean isToldWrongly(int way) {
        int kind = kindAt(way);
        return kind == TURNS || kind == EATING;
    }

    private static boolean isUnder(int kind, int above) {
        int at = kind;
        for (int i = 0; i < KINDS && at >= 0 && at < KINDS; i++) {
            if (at == above) {
                return true;
            }
            at = ABOVE[at];
        }
        return false;
    }

    private int refusalAt(int shelf, int i) {
        if (!isShelf(shelf)) {
            return BAD;
        }
        Shelf at = shelves[shelf];
        if (at.holding == Shelf.NOTHING) {
            return NOTHING_THERE;
        }
        if (at.holding != Shelf.ROW) {
            return OTHER_KIND;
        }
        return at.hasRoom(i, 1) ? 0 : NO_PLACE;
    }

    private void forgetTable(Giving g) {
        g.known[TOLD].fresh = false;
        g.known[MEND].fresh = false;
        parting.forget();
    }

    private Shares sharesOf(Giving g, int kind) {
        Shares shares = g.known[kind];
        if (shares.fresh) {
            return shares;
        }
        shares.clear();
        switch (kind) {
            case TURNS:
            case BACK:
                shares.addOrders(g, trial, line, kind == BACK);
                break;
            case EATING:
                eating.eat(g, shares);
                break;
            case TRADE:
                trade.exchange(g, shares);
                break;
            case TOLD:
                shares.copyTable(g);
                break;
            case MEND:
                shares.copyTable(g);
                shares.mend(g);
                break;
            default:
                break;
        }
        shares.fresh = true;
        return shares;
    }

    private int compareOtherwise(Giving g, int who, int kind) {
        Shares truly = sharesOf(g, kind);
        otherwise.become(g);
        otherwise.relist(who, g, places);
        Shares told = sharesOf(otherwise, kind);
        if (truly.big || told.big) {
            return VOID;
        }
        return compareRows(g, who, told, who, truly, who);
    }

    /** Row i of one against row j of another by the list of who: 1 better, -1 worse, 0 alike, 2 neither. */
    private static int compareRows(Giving g, int who, Shares one, int i, Shares other, int j) {
        boolean more = false;
        boolean less = false;
        long sum = 0;
        long otherSum = 0;
        int[] list = g.list[who];
        int[] levels = g.levels[who];
        for (int k = 0; k < g.size[who]; k++) {
            sum += one.top[i * MOST_THINGS + list[k]];
            otherSum += other.top[j * MOST_THINGS + list[k]];
            boolean levelEnds = k + 1 == g.size[who] || levels[list[k + 1]] != levels[list[k]];
            if (levelEnds) {
                more = more || sum * other.bottom > otherSum * one.bottom;
                less = less || sum * other.bottom < otherSum * one.bottom;
            }
        }
        if (more && less) {
            return 2;
        }
        return more ? 1 : less ? -1 : 0;
    }

    private void findSwap(Giving g) {
        int best = MANY;
        firstLine(line, g.people);
        for (int i = 0; i < MOST_LINES; i++) {
            trial.deal(g, line, true);
            int gap = trial.gapOf(g);
            if (gap < best) {
                best = gap;
                g.swapOrder = numberOf(line, g.people, 0);
            }
            if (!nextLine(line, g.people)) {
                break;
            }
        }
        g.swapGap = best;
        g.swapped = true;
    }

    /** Sorts the line by totals; those of like totals stay as they stood. */
    private void fewestFirst(int people) {
        for (int i = 1; i < people; i++) {
            int who = line[i];
            int at = i;
            while (at > 0 && totals[line[at - 1]] > totals[who]) {
                line[at] = line[at - 1];
                at--;
            }
            line[at] = who;
        }
    }

    /** Reads a number whose digits, less the least one, are each of 0 .. count - 1 once. */
    private static boolean readLine(int number, int count, int least, int[] to) {
        if (number < 0 || count > to.length) {
            return false;
        }
        int rest = number;
        int seen = 0;
        for (int i = count - 1; i >= 0; i--) {
            int digit = rest % 10 - least;
            rest /= 10;
            if (digit < 0 || digit >= count || (seen >> digit & 1) != 0) {
                return false;
            }
            seen |= 1 << digit;
            to[i] = digit;
        }
        return rest == 0;
    }

    private static int numberOf(int[] from, int count, int least) {
        int number = 0;
        for (int i = 0; i < count && i < from.length; i++) {
            number = number * 10 + from[i] + least;
        }
        return number;
    }

    private static void firstLine(int[] to, int count) {
        for (int i = 0; i < count && i < to.length; i++) {
            to[i] = i;
        }
    }

    /** The next greater line of the same ones; false, if there is none. */
    private static boolean nextLine(int[] at, int count) {
        int i = count - 2;
        while (i >= 0 && at[i] > at[i + 1]) {
            i--;
        }
        if (i < 0) {
            return false;
        }
        int j = count - 1;
        while (j > i && at[j] < at[i]) {
            j--;
        }
        exchange(at, i, j);
        for (int low = i + 1, high = count - 1; low < high; low++, high--) {
            exchange(at, low, high);
        }
        return true;
    }

    private static void exchange(int[] at, int i, int j) {
        int kept = at[i];
        at[i] = at[j];
        at[j] = kept;
    }

    private static long commonOf(long a, long b) {
        long one = Math.abs(a);
        long other = Math.abs(b);
        for (int i = 0; i < 200 && other != 0; i++) {
            long rest = one % other;
            one = other;
            other = rest;
        }
        return one == 0 ? 1 : one;
    }

    /** The bytes that were fed, and how far they have been read. */
    private static final class Tape {
        static final int MOST_BYTES = 120;

        final int[] text = new int[MOST_BYTES];
        int length;
        int place;

        void add(int sign) {
            if (length < MOST_BYTES) {
                text[length] = sign;
                length++;
            }
        }

        /** False: place is the fault. */
        boolean readGiving(Giving g) {
            place = 0;
            g.clear();
            return readThings(g) && readLists(g);
        }

        /** Likewise, of one list that comes in the place of who's. */
        boolean readInstead(Giving g, int who) {
            place = 0;
            return readList(g, who) && place == length;
        }

        private int next() {
            return place < length ? text[place] : -1;
        }

        private boolean readThings(Giving g) {
            for (int i = 0; i < MOST_THINGS; i++) {
                if (next() != 'a' + i) {
                    return i > 0;
                }
                place++;
                int amount = next() - '0';
                if (amount < 1 || amount > 9) {
                    return false;
                }
                place++;
                g.amount[i] = amount;
                g.things = i + 1;
            }
            return true;
        }

        private boolean readLists(Giving g) {
            for (int who = 0; who < MOST_PEOPLE; who++) {
                if (who > 0 && place == length) {
                    return true;
                }
                if (next() != ';') {
                    return false;
                }
                place++;
                g.people = who + 1;
                if (!readList(g, who)) {
                    return false;
                }
            }
            return place == length;
        }

        private boolean readList(Giving g, int who) {
            g.unlist(who);
            if (next() == '*' && !readHeld(g, who)) {
                return false;
            }
            if (next() == '-') {
                place++;
                return true;
            }
            int level = 0;
            for (int i = 0; i < MOST_THINGS; i++) {
                int thing = next() - 'a';
                if (!isThing(g, thing) || g.levels[who][thing] >= 0) {
                    return false;
                }
                g.append(who, thing, level);
                place++;
                if (next() == '>') {
                    level++;
                } else if (next() != '=') {
                    return true;
                }
                place++;
            }
            // All things are listed, and still another one is told: none can come here.
            return false;
        }

        private boolean readHeld(Giving g, int who) {
            place++;
            int thing = next() - 'a';
            if (!isThing(g, thing) || g.heldOf(thing) >= g.amount[thing]) {
                return false;
            }
            g.held[who] = thing;
            place++;
            return true;
        }
    }

    /** Things, people with their lists, rounds, the table told for them, and what was worked out of these. */
    private static final class Giving {
        int things;
        int people;
        int rounds;
        final int[] amount = new int[MOST_THINGS];
        final int[] held = new int[MOST_PEOPLE];
        final int[] size = new int[MOST_PEOPLE];
        final int[][] list = new int[MOST_PEOPLE][MOST_THINGS];
        final int[][] levels = new int[MOST_PEOPLE][MOST_THINGS];
        final int[][] parts = new int[MOST_PEOPLE][MOST_THINGS];
        final Shares[] known = new Shares[KINDS];
        boolean swapped;
        int swapOrder;
        int swapGap;

        Giving() {
            for (int kind = 0; kind < KINDS; kind++) {
                known[kind] = new Shares();
            }
        }

        static boolean isPart(long v) {
            return v >= 0 && v <= SIXTIETHS;
        }

        void clear() {
            things = 0;
            people = 0;
            rounds = 1;
            for (int who = 0; who < MOST_PEOPLE; who++) {
                Arrays.fill(parts[who], 0);
            }
            forgetAll();
        }

        void become(Giving other) {
            things = other.things;
            people = other.people;
            rounds = other.rounds;
            System.arraycopy(other.amount, 0, amount, 0, MOST_THINGS);
            System.arraycopy(other.held, 0, held, 0, MOST_PEOPLE);
            System.arraycopy(other.size, 0, size, 0, MOST_PEOPLE);
            for (int who = 0; who < MOST_PEOPLE; who++) {
                System.arraycopy(other.list[who], 0, list[who], 0, MOST_THINGS);
                System.arraycopy(other.levels[who], 0, levels[who], 0, MOST_THINGS);
                System.arraycopy(other.parts[who], 0, parts[who], 0, MOST_THINGS);
            }
            forgetAll();
        }

        void forgetAll() {
            for (int kind = 0; kind < KINDS; kind++) {
                known[kind].fresh = false;
            }
            swapped = false;
        }

        void unlist(int who) {
            held[who] = -1;
            size[who] = 0;
            Arrays.fill(levels[who], -1);
        }

        void append(int who, int thing, int level) {
            if (size[who] < MOST_THINGS) {
                list[who][size[who]] = thing;
                levels[who][thing] = level;
                size[who]++;
            }
        }

        /** The list of who becomes that of another giving, in the order of the places there, without ties. */
        void relist(int who, Giving other, int[] places) {
            int kept = held[who];
            unlist(who);
            held[who] = kept;
            for (int i = 0; i < other.size[who]; i++) {
                append(who, other.list[who][places[i]], i);
            }
        }

        int heldOf(int thing) {
            int found = 0;
            for (int who = 0; who < people; who++) {
                if (held[who] == thing) {
                    found++;
                }
            }
            return found;
        }

        /** The first thing of a list that is among the bits; -1: none. */
        int firstOf(int who, int bits) {
            int[] told = list[who];
            int end = size[who];
            for (int i = 0; i < end; i++) {
                if ((bits >> told[i] & 1) != 0) {
                    return told[i];
                }
            }
            return -1;
        }

        int partsOfPerson(int who) {
            int sum = 0;
            for (int thing = 0; thing < things; thing++) {
                sum += parts[who][thing];
            }
            return sum;
        }

        int partsOfThing(int thing) {
            int sum = 0;
            for (int who = 0; who < people; who++) {
                sum += parts[who][thing];
            }
            return sum;
        }

        int barring() {
            for (int who = 0; who < people; who++) {
                if (partsOfPerson(who) > SIXTIETHS * rounds || hasUnlisted(who)) {
                    return who;
                }
            }
            for (int thing = 0; thing < things; thing++) {
                if (partsOfThing(thing) > SIXTIETHS * amount[thing]) {
                    return 10 + thing;
                }
            }
            return NOT;
        }

        private boolean hasUnlisted(int who) {
            for (int thing = 0; thing < things; thing++) {
                if (parts[who][thing] > 0 && levels[who][thing] < 0) {
                    return true;
                }
            }
            return false;
        }

        boolean canBeParted() {
            if (rounds != 1 || barring() != NOT) {
                return false;
            }
            for (int who = 0; who < people; who++) {
                if (partsOfPerson(who) != SIXTIETHS) {
                    return false;
                }
            }
            return true;
        }
    }

    /** What each has of each thing: tops by person and thing, all over one bottom. */
    private static final class Shares {
        static final long LARGEST = 1000000000000L;

        final long[] top = new long[CELLS];
        long bottom = 1;
        boolean fresh;
        boolean big;
        int halts;

        void clear() {
            Arrays.fill(top, 0);
            bottom = 1;
            big = false;
            halts = 0;
        }

        void addOrders(Giving g, Hand hand, int[] line, boolean back) {
            firstLine(line, g.people);
            int orders = 0;
            for (int i = 0; i < MOST_LINES; i++) {
                hand.deal(g, line, back);
                orders++;
                addHand(g, hand);
                if (!nextLine(line, g.people)) {
                    break;
                }
            }
            bottom = orders;
        }

        private void addHand(Giving g, Hand hand) {
            for (int who = 0; who < g.people; who++) {
                for (int i = 0; i < hand.got[who]; i++) {
                    top[who * MOST_THINGS + hand.thingOf[who][i]]++;
                }
            }
        }

        void copyTable(Giving g) {
            bottom = SIXTIETHS;
            for (int who = 0; who < g.people; who++) {
                for (int thing = 0; thing < g.things; thing++) {
                    top[who * MOST_THINGS + thing] = g.parts[who][thing];
                }
            }
        }

        void mend(Giving g) {
            for (int who = 0; who < g.people; who++) {
                long over = dropUnlisted(g, who) - SIXTIETHS * g.rounds;
                for (int i = g.size[who] - 1; i >= 0 && over > 0; i--) {
                    over -= cut(who, g.list[who][i], over);
                }
            }
            for (int thing = 0; thing < g.things; thing++) {
                long over = -SIXTIETHS * g.amount[thing];
                for (int who = 0; who < g.people; who++) {
                    over += top[who * MOST_THINGS + thing];
                }
                for (int who = g.people - 1; who >= 0 && over > 0; who--) {
                    over -= cut(who, thing, over);
                }
            }
        }

        private long dropUnlisted(Giving g, int who) {
            long sum = 0;
            for (int thing = 0; thing < g.things; thing++) {
                if (g.levels[who][thing] < 0) {
                    top[who * MOST_THINGS + thing] = 0;
                }
                sum += top[who * MOST_THINGS + thing];
            }
            return sum;
        }

        private long cut(int who, int thing, long over) {
            long off = Math.min(over, top[who * MOST_THINGS + thing]);
            top[who * MOST_THINGS + thing] -= off;
            return off;
        }
    }

    /** A run: what each took, at which turn, and what is left. */
    private static final class Hand {
        final int[] left = new int[MOST_THINGS];
        final int[] got = new int[MOST_PEOPLE];
        final int[][] turnOf = new int[MOST_PEOPLE][MOST_ROUNDS];
        final int[][] thingOf = new int[MOST_PEOPLE][MOST_ROUNDS];
        private int leftBits;

        void deal(Giving g, int[] line, boolean back) {
            System.arraycopy(g.amount, 0, left, 0, MOST_THINGS);
            Arrays.fill(got, 0);
            leftBits = (1 << g.things) - 1;
            int turn = 0;
            for (int round = 0; round < g.rounds; round++) {
                boolean turned = back && round % 2 == 1;
                for (int i = 0; i < g.people; i++) {
                    take(g, turned ? line[g.people - 1 - i] : line[i], turn);
                    turn++;
                }
            }
        }

        private void take(Giving g, int who, int turn) {
            int thing = g.firstOf(who, leftBits);
            int at = got[who];
            if (thing < 0 || at >= MOST_ROUNDS) {
                return;
            }
            left[thing]--;
            if (left[thing] == 0) {
                leftBits &= ~(1 << thing);
            }
            thingOf[who][at] = thing;
            turnOf[who][at] = turn;
            got[who] = at + 1;
        }

        int countOf(int who, int thing) {
            int found = 0;
            for (int i = 0; i < got[who]; i++) {
                if (thingOf[who][i] == thing) {
                    found++;
                }
            }
            return found;
        }

        int pointsOf(Giving g, int who) {
            int points = 0;
            for (int i = 0; i < got[who]; i++) {
                points += 8 - g.levels[who][thingOf[who][i]];
            }
            return points;
        }

        int gapOf(Giving g) {
            int most = 0;
            int fewest = MANY;
            for (int who = 0; who < g.people; who++) {
                int points = pointsOf(g, who);
                most = Math.max(most, points);
                fewest = Math.min(fewest, points);
            }
            return most - fewest;
        }
    }

    /** All eat at one pace; what is left, what was eaten and the time are tops over one bottom. */
    private static final class Eating {
        private final long[] left = new long[MOST_THINGS];
        private final int[] food = new int[MOST_PEOPLE];
        private final int[] eaters = new int[MOST_THINGS];
        private long time;

        void eat(Giving g, Shares shares) {
            for (int thing = 0; thing < g.things; thing++) {
                left[thing] = g.amount[thing];
            }
            time = 0;
            // Each stop ends a thing or the time, so that more than these cannot come.
            for (int i = 0; i <= MOST_THINGS && time < g.rounds * shares.bottom && choose(g); i++) {
                int next = nextEaten(g, shares);
                long pace = next < 0 ? 1 : eaters[next];
                if (shares.bottom > Shares.LARGEST / Math.max(1, pace)) {
                    shares.big = true;
                    return;
                }
                long bite = next < 0 ? g.rounds * shares.bottom - time : left[next];
                widen(shares, pace);
                pass(g, shares, bite);
                shares.halts++;
            }
        }

        /** Each looks for its food anew; false, if nobody finds any. */
        private boolean choose(Giving g) {
            int bits = 0;
            for (int thing = 0; thing < g.things; thing++) {
                eaters[thing] = 0;
                if (left[thing] > 0) {
                    bits |= 1 << thing;
                }
            }
            boolean found = false;
            for (int who = 0; who < g.people; who++) {
                int thing = g.firstOf(who, bits);
                food[who] = thing;
                if (thing >= 0) {
                    eaters[thing]++;
                    found = true;
                }
            }
            return found;
        }

        /** The thing that is all eaten first; -1: time comes to the rounds ahead of all. */
        private int nextEaten(Giving g, Shares shares) {
            int best = -1;
            long top = g.rounds * shares.bottom - time;
            long under = 1;
            for (int thing = 0; thing < g.things; thing++) {
                if (eaters[thing] > 0 && left[thing] * under < top * eaters[thing]) {
                    best = thing;
                    top = left[thing];
                    under = eaters[thing];
                }
            }
            return best;
        }

        private void widen(Shares shares, long pace) {
            for (int i = 0; i < CELLS; i++) {
                shares.top[i] *= pace;
            }
            for (int thing = 0; thing < MOST_THINGS; thing++) {
                left[thing] *= pace;
            }
            shares.bottom *= pace;
            time *= pace;
        }

        private void pass(Giving g, Shares shares, long bite) {
            for (int who = 0; who < g.people; who++) {
                if (food[who] >= 0) {
                    shares.top[who * MOST_THINGS + food[who]] += bite;
                    left[food[who]] -= bite;
                }
            }
            time += bite;
        }
    }

    /** Trades by rings from what each holds; what is not held is taken then by those that have nothing. */
    private static final class Trade {
        private final int[] holds = new int[MOST_PEOPLE];
        private final int[] ends = new int[MOST_PEOPLE];
        private final int[] points = new int[MOST_PEOPLE];
        private final boolean[] done = new boolean[MOST_PEOPLE];

        void exchange(Giving g, Shares shares) {
            for (int who = 0; who < g.people; who++) {
                holds[who] = g.held[who];
                ends[who] = holds[who];
                done[who] = holds[who] < 0;
            }
            // Each step ends the trade of one at least.
            for (int i = 0; i < MOST_PEOPLE; i++) {
                if (pointAll(g)) {
                    closeRing(g);
                }
            }
            takeRest(g);
            for (int who = 0; who < g.people; who++) {
                if (ends[who] >= 0) {
                    shares.top[who * MOST_THINGS + ends[who]] = 1;
                }
            }
        }

        /** Each points; false, if some had nobody to point to, and were done, so that others must look again. */
        private boolean pointAll(Giving g) {
            int bits = 0;
            for (int who = 0; who < g.people; who++) {
                if (!done[who]) {
                    bits |= 1 << holds[who];
                }
            }
            boolean all = true;
            for (int who = 0; who < g.people; who++) {
                if (!done[who]) {
                    int thing = g.firstOf(who, bits);
                    points[who] = thing < 0 ? -1 : holderOf(g, thing, who);
                    all = all && points[who] >= 0;
                }
            }
            for (int who = 0; who < g.people && !all; who++) {
                done[who] = done[who] || points[who] < 0;
            }
            return all;
        }

        private int holderOf(Giving g, int thing, int who) {
            if (holds[who] == thing) {
                return who;
            }
            for (int i = 0; i < g.people; i++) {
                if (!done[i] && holds[i] == thing) {
                    return i;
                }
            }
            return -1;
        }

        private void closeRing(Giving g) {
            for (int first = 0; first < g.people; first++) {
                if (!done[first] && isInRing(g, first)) {
                    int at = first;
                    for (int i = 0; i < g.people && !done[at]; i++) {
                        ends[at] = holds[points[at]];
                        done[at] = true;
                        at = points[at];
                    }
                    return;
                }
            }
        }

        private boolean isInRing(Giving g, int first) {
            int at = points[first];
            for (int i = 0; i < g.people && at != first; i++) {
                at = points[at];
            }
            return at == first;
        }

        private void takeRest(Giving g) {
            for (int who = 0; who < g.people; who++) {
                if (ends[who] < 0) {
                    ends[who] = g.firstOf(who, leftOf(g));
                }
            }
        }

        /** The things of which some is with nobody, neither held ahead nor taken by now. */
        private int leftOf(Giving g) {
            int bits = 0;
            for (int thing = 0; thing < g.things; thing++) {
                int had = 0;
                for (int who = 0; who < g.people; who++) {
                    had += ends[who] == thing ? 1 : 0;
                }
                if (had < g.amount[thing]) {
                    bits |= 1 << thing;
                }
            }
            return bits;
        }
    }

    /** A table parted into whole givings, each with its sixtieths. */
    private static final class Parting {
        final int[] digits = new int[SIXTIETHS];
        final int[] weight = new int[SIXTIETHS];
        int size;
        private Giving known;
        private final int[][] parts = new int[MOST_PEOPLE][MOST_THINGS];
        private final int[] allowed = new int[MOST_PEOPLE];
        private final int[] pick = new int[MOST_PEOPLE];
        private final int[] free = new int[MOST_THINGS];
        private final int[] must = new int[MOST_THINGS];
        private final int[] slack = new int[MOST_THINGS];

        void forget() {
            known = null;
        }

        void split(Giving g) {
            if (known == g) {
                return;
            }
            for (int who = 0; who < g.people; who++) {
                System.arraycopy(g.parts[who], 0, parts[who], 0, MOST_THINGS);
            }
            size = 0;
            int rest = SIXTIETHS;
            // Each whole giving takes off a sixtieth at least.
            for (int i = 0; i < SIXTIETHS && rest > 0; i++) {
                measure(g, rest);
                if (!pickFirst(g)) {
                    break;
                }
                int off = Math.min(rest, mostOff(g));
                for (int who = 0; who < g.people; who++) {
                    parts[who][pick[who]] -= off;
                }
                digits[size] = numberOf(pick, g.people, 0);
                weight[size] = off;
                size++;
                rest -= off;
            }
            known = g;
        }

        /** Of each thing: how many may be given, how many must, and how many parts could still lie idle. */
        private void measure(Giving g, int rest) {
            for (int thing = 0; thing < g.things; thing++) {
                int sum = 0;
                for (int who = 0; who < g.people; who++) {
                    sum += parts[who][thing];
                }
                slack[thing] = g.amount[thing] * rest - sum;
                free[thing] = g.amount[thing];
                must[thing] = Math.max(0, g.amount[thing] - slack[thing]);
            }
            for (int who = 0; who < g.people; who++) {
                int bits = 0;
                for (int thing = 0; thing < g.things; thing++) {
                    bits |= parts[who][thing] > 0 ? 1 << thing : 0;
                }
                allowed[who] = bits;
            }
        }

        private boolean pickFirst(Giving g) {
            for (int who = 0; who < g.people; who++) {
                if (!pickFor(g, who)) {
                    return false;
                }
            }
            return true;
        }

        private boolean pickFor(Giving g, int who) {
            for (int thing = 0; thing < g.things; thing++) {
                if ((allowed[who] >> thing & 1) != 0 && free[thing] > 0) {
                    free[thing]--;
                    must[thing]--;
                    if (canGoOn(g, who + 1)) {
                        pick[who] = thing;
                        return true;
                    }
                    free[thing]++;
                    must[thing]++;
                }
            }
            return false;
        }

        /**
         * Whether those from one on can be given all that must be given, and a thing each. It holds just when no
         * set of things is too small for those who can have nothing else, or too large for those who can have of it.
         */
        private boolean canGoOn(Giving g, int from) {
            for (int set = 0; set < 1 << g.things; set++) {
                int room = 0;
                int need = 0;
                for (int thing = 0; thing < g.things; thing++) {
                    if ((set >> thing & 1) != 0) {
                        room += free[thing];
                        need += Math.max(0, must[thing]);
                    }
                }
                for (int who = from; who < g.people; who++) {
                    room -= (allowed[who] & ~set) == 0 ? 1 : 0;
                    need -= (allowed[who] & set) != 0 ? 1 : 0;
                }
                if (room < 0 || need > 0) {
                    return false;
                }
            }
            return true;
        }

        /** How many sixtieths of what was picked can be taken off; free now says how many are not given. */
        private int mostOff(Giving g) {
            int most = SIXTIETHS;
            for (int who = 0; who < g.people; who++) {
                most = Math.min(most, parts[who][pick[who]]);
            }
            for (int thing = 0; thing < g.things; thing++) {
                if (free[thing] > 0) {
                    most = Math.min(most, slack[thing] / free[thing]);
                }
            }
            return most;
        }
    }

    /**
     * The least ring of those who would still trade when a run is over. By the runs that there are none is ever found,
     * since each took the best that was left; but it is looked for, and not taken for granted.
     */
    private static final class Rings {
        final int[] who = new int[MOST_PEOPLE];
        final int[] given = new int[MOST_PEOPLE];
        int size;
        private boolean known;

        void forget() {
            known = false;
        }

        void find(Giving g, Hand hand) {
            if (known) {
                return;
            }
            known = true;
            size = findAlone(g, hand) ? 1 : 0;
            for (int n = 2; n <= g.people && size == 0; n++) {
                if (addPerson(this, g, hand, n, 0)) {
                    size = n;
                }
            }
        }

        private boolean findAlone(Giving g, Hand hand) {
            for (int i = 0; i < g.people; i++) {
                for (int thing = 0; thing < g.things; thing++) {
                    if (hand.countOf(i, thing) > 0 && findLeft(g, hand, i, thing)) {
                        who[0] = i;
                        given[0] = thing;
                        return true;
                    }
                }
            }
            return false;
        }

        private static boolean findLeft(Giving g, Hand hand, int i, int thing) {
            for (int other = 0; other < g.things; other++) {
                if (hand.left[other] > 0 && isBetter(g, i, other, thing)) {
                    return true;
                }
            }
            return false;
        }

        private static boolean isBetter(Giving g, int i, int thing, int than) {
            int level = g.levels[i][thing];
            return level >= 0 && level < g.levels[i][than];
        }

        /** People come in their order, the least first; the things are looked for when all of them are there. */
        private static boolean addPerson(Rings r, Giving g, Hand hand, int n, int depth) {
            if (depth >= n || depth >= MOST_PEOPLE) {
                return addThing(r, g, hand, n, 0);
            }
            int least = depth == 0 ? 0 : r.who[0] + 1;
            for (int i = least; i < g.people; i++) {
                r.who[depth] = i;
                if (!isAmong(r.who, depth, i) && addPerson(r, g, hand, n, depth + 1)) {
                    return true;
                }
            }
            return false;
        }

        private static boolean isAmong(int[] some, int count, int i) {
            for (int k = 0; k < count; k++) {
                if (some[k] == i) {
                    return true;
                }
            }
            return false;
        }

        private static boolean addThing(Rings r, Giving g, Hand hand, int n, int depth) {
            if (depth >= n || depth >= MOST_PEOPLE) {
                return isBetter(g, r.who[0], r.given[n - 1], r.given[0]);
            }
            for (int thing = 0; thing < g.things; thing++) {
                boolean gives = hand.countOf(r.who[depth], thing) > 0;
                if (gives && (depth == 0 || isBetter(g, r.who[depth], r.given[depth - 1], thing))) {
                    r.given[depth] = thing;
                    if (addThing(r, g, hand, n, depth + 1)) {
                        return true;
                    }
                }
            }
            return false;
        }
    }

    /** Orders told of one giving, and the set of them by which the worst off has most. */
    private static final class Evens {
        static final int MOST = 6;

        final int[] orders = new int[MOST];
        int size;
        int giving;
        int top;
        int bottom;
        private final int[][] points = new int[MOST][MOST_PEOPLE];

        boolean isTold(int order) {
            for (int i = 0; i < size; i++) {
                if (orders[i] == order) {
                    return true;
                }
            }
            return false;
        }

        void add(int of, int order) {
            if (size < MOST) {
                giving = of;
                orders[size] = order;
                size++;
            }
        }

        void keepPoints(int i, Giving g, Hand hand) {
            for (int who = 0; who < g.people; who++) {
                points[i][who] = hand.pointsOf(g, who);
            }
        }

        /** The best set; its least mean is kept, and the orders are none then. */
        int choose(int people) {
            int best = 0;
            int bestLeast = 0;
            int bestCount = 1;
            for (int set = 1; set < 1 << size; set++) {
                int least = leastOf(set, people);
                int count = Integer.bitCount(set);
                int more = least * bestCount - bestLeast * count;
                if (best == 0 || more > 0 || more == 0 && count < bestCount) {
                    best = set;
                    bestLeast = least;
                    bestCount = count;
                }
            }
            int common = (int) commonOf(bestLeast, bestCount);
            top = bestLeast / common;
            bottom = bestCount / common;
            size = 0;
            return best;
        }

        private int leastOf(int set, int people) {
            int least = MANY;
            for (int who = 0; who < people; who++) {
                int sum = 0;
                for (int i = 0; i < size; i++) {
                    sum += (set >> i & 1) != 0 ? points[i][who] : 0;
                }
                least = Math.min(least, sum);
            }
            return least;
        }
    }

    /** Acts of ways: which body runs comes from the kind, or from the next one above that has it. */
    private static final class Acts {
        static final int ACTS = 4;
        static final int KEPT = 24;
        private static final int TAKES = 0, LEAVES = 1, LIKES = 2, TELLS = 3;
        private static final int DEEPEST = 40;
        /** By kind, then by act; 0: the kind has none. */
        private static final int[] BODIES = {
            1, 10, 11, 2,
            20, 0, 0, 0,
            0, 30, 0, 0,
            0, 0, 40, 0,
            0, 0, 0, 50,
            0, 60, 0, 0,
            0, 71, 70, 0};

        final int[] kept = new int[KEPT];
        int ran;
        private int kind;
        private int number;

        void clear() {
            ran = 0;
        }

        int perform(int ofKind, int ofWay, int act, int x) {
            kind = ofKind;
            number = ofWay;
            return begin(this, ofKind, act, x, 0);
        }

        private void note(int body) {
            if (ran < KEPT) {
                kept[ran] = body;
            }
            ran++;
        }

        /** The body of an act of a kind, or of the next one above that has one. */
        private static int begin(Acts a, int from, int act, int x, int depth) {
            int at = from;
            for (int i = 0; i < KINDS && at > 0 && BODIES[at * ACTS + act] == 0; i++) {
                at = ABOVE[at];
            }
            if (at < 0 || depth > DEEPEST) {
                return 0;
            }
            int body = BODIES[at * ACTS + act];
            int over = ABOVE[at];
            int next = depth + 1;
            a.note(body);
            switch (body) {
                case 1:
                    return x + a.number;
                case 2:
                    return begin(a, a.kind, LEAVES, x, next) - begin(a, a.kind, LIKES, 1, next);
                case 10:
                    return begin(a, a.kind, TAKES, x, next) * 2;
                case 11:
                    return x ^ a.number;
                case 20:
                    return begin(a, over, TAKES, x, next) - 1;
                case 30:
                    return begin(a, over, LEAVES, x, next) + begin(a, a.kind, TAKES, 2, next);
                case 40:
                    return begin(a, over, LIKES, x, next) * 3;
                case 50:
                    return begin(a, over, TELLS, x, next) ^ 5;
                case 60:
                    return -begin(a, over, LEAVES, x, next);
                case 70:
                    return begin(a, over, LIKES, x + 1, next);
                case 71:
                    return begin(a, over, LEAVES, x, next) - begin(a, over, LIKES, x, next);
                default:
                    return 0;
            }
        }
    }

    /** Nothing, a way by its kind, or a row; all sorts of rows keep their elements in the same cells. */
    private static final class Shelf {
        static final int NOTHING = 0, KIND = 1, ROW = 2;
        static final int BYTES = 0, SHORTS = 1, INTS = 2, BOOLEANS = 4, SORTS = 5;
        static final int MOST_CELLS = 60;

        final long[] cells = new long[MOST_CELLS];
        int holding;
        int kind;
        int sort;
        private int length;

        /** Below 0: nothing. */
        void keepKind(int ofKind) {
            holding = ofKind < 0 ? NOTHING : KIND;
            kind = ofKind;
        }

        void keepRow(int ofSort, int n) {
            holding = ROW;
            sort = ofSort;
            length = n;
            Arrays.fill(cells, 0);
        }

        boolean hasRoom(long i, long n) {
            return i >= 0 && n >= 0 && i + n <= length;
        }

        void write(int i, long v) {
            switch (sort) {
                case BYTES:
                    cells[i] = (byte) v;
                    break;
                case SHORTS:
                    cells[i] = (short) v;
                    break;
                case INTS:
                    cells[i] = (int) v;
                    break;
                case BOOLEANS:
                    cells[i] = v != 0 ? 1 : 0;
                    break;
                default:
                    cells[i] = v;
                    break;
            }
        }
    }
}
