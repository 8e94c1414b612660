import java.util.Arrays;
import java.util.List;

/**
 * Boundary by boundary, each from both sides: the least and the greatest number that is taken and the ones just beyond
 * them, what is empty, what is full, what wraps around. That refused calls change nothing is looked at by RefusalsTest.
 */
public final class BoundaryTest {
    private static final int BAD = -1, NOT = -2, FULL = -3, BIG = -4, STATE = -5, VOID = -2000000000;
    private static final int LEAST = Integer.MIN_VALUE, GREATEST = Integer.MAX_VALUE;
    private static final int WAY = 0, TURNS = 1, BACK = 2, EATING = 3, TRADE = 4, TOLD = 5, MEND = 6;
    private static int wrong = 0;
    private static String boundary = "";

    public static void main(String[] args) {
        newObject();
        tapes();
        texts();
        manyGivings();
        parts();
        lists();
        insteads();
        lines();
        runs();
        ways();
        shares();
        eating();
        trades();
        mends();
        comparing();
        lies();
        tables();
        bars();
        parting();
        evens();
        swaps();
        years();
        acts();
        keeps();
        rows();
        shifts();
        counts();
        System.out.println(wrong == 0 ? "all boundaries hold" : wrong + " rows are not as due");
        if (wrong != 0) {
            System.exit(1);
        }
    }

    // ---- what the tests have in common

    private static void at(String what) {
        boundary = what;
    }

    private static void due(String call, long got, long want) {
        if (got != want) {
            wrong++;
            System.out.println(boundary + ": " + call + " answered " + got + ", due is " + want);
        }
    }

    private static void tell(TakenInTurns x, String text) {
        for (int i = 0; i < text.length(); i += 4) {
            int n = Math.min(4, text.length() - i);
            int v = 0;
            for (int k = 0; k < n; k++) {
                v |= text.charAt(i + k) << 8 * k;
            }
            x.feed(n, v);
        }
    }

    private static int giving(TakenInTurns x, String text) {
        tell(x, text);
        return x.giving();
    }

    private static int instead(TakenInTurns x, int giving, int who, String text) {
        tell(x, text);
        return x.instead(giving, who);
    }

    /** A new object with givings 0, 1, .. of these texts, and a way of each kind by its own number. */
    private static TakenInTurns with(String... texts) {
        TakenInTurns x = new TakenInTurns();
        for (int i = 0; i < texts.length; i++) {
            due(texts[i], giving(x, texts[i]), i);
        }
        for (int kind = 0; kind < 7; kind++) {
            x.way(kind);
        }
        return x;
    }

    private static void table(TakenInTurns x, int giving, int[]... parts) {
        for (int who = 0; who < parts.length; who++) {
            for (int thing = 0; thing < parts[who].length; thing++) {
                x.told(giving, 10 * who + thing, parts[who][thing]);
            }
        }
    }

    private static void share(TakenInTurns x, int giving, int way, int at, long top, long bottom) {
        String call = "share(" + giving + ", " + way + ", " + at;
        due(call + ", 0)", x.share(giving, way, at, 0), top);
        due(call + ", 1)", x.share(giving, way, at, 1), bottom);
    }

    /** Shares in sixtieths, by person and thing. */
    private static void sixtieths(TakenInTurns x, int giving, int way, int[]... parts) {
        for (int who = 0; who < parts.length; who++) {
            for (int thing = 0; thing < parts[who].length; thing++) {
                int at = 10 * who + thing;
                long top = x.share(giving, way, at, 0), bottom = x.share(giving, way, at, 1);
                due("share(" + giving + ", " + way + ", " + at + ") in sixtieths", bottom > 0 ? top * 60 / bottom : -1, parts[who][thing]);
            }
        }
    }

    private static void has(TakenInTurns x, int[]... rows) {
        for (int who = 0; who < rows.length; who++) {
            for (int thing = 0; thing < rows[who].length; thing++) {
                due("has(" + who + ", " + thing + ")", x.has(who, thing), rows[who][thing]);
            }
        }
    }

    private static String repeat(String text, int times) {
        StringBuilder b = new StringBuilder();
        for (int i = 0; i < times; i++) {
            b.append(text);
        }
        return b.toString();
    }

    // ---- promise 1

    private static void newObject() {
        at("promise 1: a new object has no givings and no ways");
        TakenInTurns x = new TakenInTurns();
        for (int what = 0; what <= 4; what++) {
            due("count(" + what + ")", x.count(what), 0);
        }
        for (int g = -1; g <= 5; g++) {
            due("of", x.of(g, 0), VOID);
            due("rounds", x.rounds(g, 1), BAD);
            due("level", x.level(g, 0, 0), VOID);
            due("listed", x.listed(g, 0, -1), BAD);
            due("takes", x.takes(g, 0, 1), BAD);
            due("instead", x.instead(g, 0), BAD);
            due("run", x.run(g, 0, 0), BAD);
            due("share", x.share(g, 0, 0, 0), BAD);
            due("stops", x.stops(g), BAD);
            due("rather", x.rather(g, 0, 0, 0), VOID);
            due("envy", x.envy(g, 0), BAD);
            due("wrongly", x.wrongly(g, 0, 0, 1), VOID);
            due("gains", x.gains(g, 0, 0), BAD);
            due("told", x.told(g, 0, 0), BAD);
            due("table", x.table(g, 0, 0), BAD);
            due("bars", x.bars(g), BAD);
            due("parted", x.parted(g, -1, 0), BAD);
            due("order", x.order(g, 0), BAD);
            due("swap", x.swap(g, 0), BAD);
            due("years", x.years(g, 0, 1, 0), BAD);
        }
        for (int way = -1; way <= 15; way++) {
            due("kindOf(" + way + ")", x.kindOf(way), BAD);
            due("act(" + way + ")", x.act(way, 0, 7), 0);
        }
        due("keep(0, 0)", x.keep(0, 0), BAD);
        due("has", x.has(0, 0), BAD);
        due("left", x.left(0), BAD);
        due("led", x.led(0, 0, 0), BAD);
        due("ring(-1)", x.ring(-1), BAD);
        due("ring(0)", x.ring(0), BAD);
        due("even", x.even(), BAD);
        due("evenIs(0)", x.evenIs(0), BAD);
        due("evenIs(1)", x.evenIs(1), BAD);
        due("trace(0)", x.trace(0), BAD);
        for (int shelf = 0; shelf < 6; shelf++) {
            due("element", x.element(shelf, 0), Long.MIN_VALUE);
            due("put", x.put(shelf, 0, 0), -11);
            due("shift", x.shift(shelf, 0, shelf, 0, 0), -11);
            due("taken", x.taken(shelf, 0), -11);
        }
        due("giving() of an empty tape", x.giving(), -100);
        due("way", x.way(0), 0);
        TakenInTurns other = new TakenInTurns();
        due("count(1) of another object", other.count(1), 0);
    }

    // ---- promise 2

    private static void tapes() {
        at("promise 2: n is 1 .. 4");
        TakenInTurns x = new TakenInTurns();
        for (int n : new int[] {LEAST, -1, 0, 5, 6, GREATEST}) {
            due("feed(" + n + ")", x.feed(n, 'a'), BAD);
            due("count(2)", x.count(2), 0);
        }
        int all = 0;
        for (int n = 1; n <= 4; n++) {
            all += n;
            due("feed(" + n + ")", x.feed(n, 0), all);
            due("count(2)", x.count(2), all);
        }
        at("promise 2: the lowest of v first, and no more than n of them");
        int v = 'a' | '1' << 8 | ';' << 16 | 'a' << 24;
        int[] faults = {-101, -102, -103, 0};
        for (int n = 1; n <= 4; n++) {
            x = new TakenInTurns();
            due("feed(" + n + ")", x.feed(n, v), n);
            due("giving", x.giving(), faults[n - 1]);
        }
        x = new TakenInTurns();
        due("feed", x.feed(4, v | 0x80000000), 4);
        due("giving with a byte of 128 and more", x.giving(), -103);
        due("feed", x.feed(3, v), 3);
        due("feed", x.feed(1, 'a' | 0xffffff00), 4);
        due("giving", x.giving(), 0);
        at("promise 2: 120 bytes at most");
        for (int have = 116; have <= 120; have++) {
            for (int n = 1; n <= 4; n++) {
                x = new TakenInTurns();
                for (int i = 0; i < have; i++) {
                    due("feed(1)", x.feed(1, 'a'), i + 1);
                }
                boolean fits = have + n <= 120;
                due(have + " bytes, feed(" + n + ")", x.feed(n, 0x31313131), fits ? have + n : FULL);
                due("count(2)", x.count(2), fits ? have + n : have);
                due("feed(0)", x.feed(0, 0), BAD);
                due("feed(5)", x.feed(5, 0), BAD);
            }
        }
        due("giving of 120 bytes", x.giving(), -101);
        due("count(2)", x.count(2), 0);
        due("feed", x.feed(4, 0), 4);
    }

    // ---- promise 3

    private static int alone(String text) {
        return giving(new TakenInTurns(), text);
    }

    private static void texts() {
        at("promise 3: the length, if the text ends too early");
        String text = "a1b9;*ab=a;-;*b-;b";
        List<Integer> whole = List.of(8, 10, 12, 16, 18);
        for (int n = 0; n <= text.length(); n++) {
            due("the first " + n + " of " + text, alone(text.substring(0, n)), whole.contains(n) ? 0 : -100 - n);
        }
        at("promise 3: the first byte with which no text goes on");
        String[][] goOn = {{"", "a"}, {"a", "123456789"}, {"a1", "b;"}, {"a1b", "123456789"}, {"a1b2c3d4e5f6g7", "h;"},
            {"a1b2c3d4e5f6g7h8", ";"}, {"a1b1;", "*-ab"}, {"a1b1;*", "ab"}, {"a1b1;*a", "-ab"}, {"a1b1;-", ";"},
            {"a1b1;*b-", ";"}, {"a1b1;a", ">=;"}, {"a1b1;a>", "b"}, {"a1b1;a=", "b"}, {"a1b1;b=", "a"}, {"a1b1;a>b", ">=;"},
            {"a1b1;a=b>", ""}, {"a1b1;a;", "*-ab"}, {"a1b1;*a-;*", "b"}, {"a2b1;*a-;*", "ab"}, {"a2b1;*a-;*a-;*", "b"},
            {"a1b1c1;a>c", ">=;"}, {"a1b1c1;a>c=", "b"}, {"a1;-;-;-;-;-;-;", "*-a"}, {"a1;-;-;-;-;-;-;-", ""}};
        for (String[] state : goOn) {
            for (int sign = 0; sign < 256; sign++) {
                boolean fine = sign < 128 && state[1].indexOf(sign) >= 0;
                int length = state[0].length();
                // A byte of 1 can never come, so that the place tells whether the sign ahead of it was taken.
                due("byte " + sign + " behind " + state[0], alone(state[0] + (char) sign + (char) 1), -100 - length - (fine ? 1 : 0));
            }
        }
        at("promise 3: 1 to 8 letters with a digit 1 .. 9, people 1 to 7");
        due("no things", alone(";a"), -100);
        due("no people", alone("a1"), -102);
        due("one thing, one of PEOPLE", alone("a1;-"), 0);
        due("nine of it", alone("a9;a"), 0);
        due("eight things", alone("a1b1c1d1e1f1g1h1;h"), 0);
        due("nine things", alone("a1b1c1d1e1f1g1h1i1;a"), -116);
        due("seven people", alone("a1" + repeat(";a", 7)), 0);
        due("eight people", alone("a1" + repeat(";a", 8)), -116);
        due("a thing left out", alone("a1c1;a"), -102);
        due("a thing twice", alone("a1a1;a"), -102);
        due("a blank at the end", alone("a1;a "), -104);
        at("promise 3: no more of a THING may be HELD than there are");
        for (int n = 1; n <= 7; n++) {
            String few = "a" + n + repeat(";*a-", n);
            due(few, alone(few), 0);
            due(few + ";*a-", alone(few + ";*a-"), n == 7 ? -100 - few.length() : -100 - few.length() - 2);
        }
        due("seven of nine", alone("a9" + repeat(";*aa", 7)), 0);
        due("another thing", alone("a1b1;*a-;*b-"), 0);
        longTexts();
    }

    private static void longTexts() {
        at("promise 3: texts of 119, 120 bytes");
        String things = "a1b1c1d1e1f1g1h1";
        String most = ";a=b>c=d>e=f>g=h";
        String text = things + repeat(most, 6) + ";a=b>c=";
        due("length", text.length(), 119);
        TakenInTurns x = new TakenInTurns();
        due("119 bytes that end too early", giving(x, text), -219);
        due("120 bytes", giving(x, text + "d"), 0);
        due("of(0, 0)", x.of(0, 0), 7);
        due("listed(0, 6, -1)", x.listed(0, 6, -1), 4);
        due("120 bytes, the last one wrong", giving(x, text + "a"), -219);
        due("120 bytes, the last one wrong", giving(x, text + ";"), -219);
        due("120 bytes, the last but one wrong", giving(x, things + repeat(most, 6) + ";*hb>ch="), -218);
        due("120 bytes with one HELD", giving(x, things + repeat(most, 6) + ";*hb>c>d"), 1);
        String held = things + repeat(most, 3) + ";*a" + most.substring(1) + ";*b" + most.substring(1) + ";*c" + most.substring(1);
        due("length", held.length(), 118);
        due("118 bytes", giving(x, held), 2);
        due("119 bytes that end too early", giving(x, held + ";"), -219);
        due("120 bytes that end too early", giving(x, held + ";*"), -220);
        due("120 bytes, the last one for an eighth", giving(x, held + ";-"), 3);
        due("of(3, 0)", x.of(3, 0), 7);
        due("120 bytes, an eighth", giving(x, things + repeat(";-", 52)), -130);
    }

    private static void manyGivings() {
        at("promise 3: givings 0 .. 4, and then FULL");
        TakenInTurns x = new TakenInTurns();
        for (int i = 0; i < 5; i++) {
            due("a fault", giving(x, "a1;b"), -103);
            due("count(2) behind a fault", x.count(2), 0);
            due("count(0) behind a fault", x.count(0), i);
            due("of(" + i + ", 0)", x.of(i, 0), VOID);
            due("giving", giving(x, "a" + (i + 1) + ";-"), i);
            due("count(2)", x.count(2), 0);
            due("count(0)", x.count(0), i + 1);
        }
        tell(x, "a1;a");
        due("giving", x.giving(), FULL);
        due("count(2)", x.count(2), 4);
        due("count(0)", x.count(0), 5);
        due("giving", x.giving(), FULL);
        for (int i = 0; i < 5; i++) {
            due("of(" + i + ", 10)", x.of(i, 10), i + 1);
        }
        due("feed goes on", x.feed(1, 0), 5);
    }

    // ---- promises 4 to 8

    private static void parts() {
        at("promise 4: of");
        TakenInTurns x = with("a1;-", "a1b2c3d4e5f6g7h9;*hh;*aa;b;c;d;e;-");
        int[] whats = {LEAST, -1, 0, 1, 2, 3, 9, 10, 11, 17, 18, 19, 20, 21, 26, 27, 28, GREATEST};
        int[] small = {VOID, VOID, 1, 1, 1, VOID, VOID, 1, VOID, VOID, VOID, VOID, -1, VOID, VOID, VOID, VOID, VOID};
        int[] great = {VOID, VOID, 7, 8, 1, VOID, VOID, 1, 2, 9, VOID, VOID, 7, 0, -1, VOID, VOID, VOID};
        for (int i = 0; i < whats.length; i++) {
            due("of(0, " + whats[i] + ")", x.of(0, whats[i]), small[i]);
            due("of(1, " + whats[i] + ")", x.of(1, whats[i]), great[i]);
            due("of(2, " + whats[i] + ")", x.of(2, whats[i]), VOID);
            due("of(-1, " + whats[i] + ")", x.of(-1, whats[i]), VOID);
        }
        due("of", x.of(GREATEST, 0), VOID);
        due("of", x.of(LEAST, 0), VOID);
        at("promise 5: ROUNDS 1 .. 3, 1 at first");
        for (int n : new int[] {LEAST, -1, 0, 4, 5, GREATEST}) {
            due("rounds(1, " + n + ")", x.rounds(1, n), BAD);
            due("of(1, 2)", x.of(1, 2), 1);
        }
        due("rounds(1, 1)", x.rounds(1, 1), 1);
        due("rounds(1, 3)", x.rounds(1, 3), 1);
        due("of(1, 2)", x.of(1, 2), 3);
        due("of(0, 2)", x.of(0, 2), 1);
        due("rounds(1, 2)", x.rounds(1, 2), 3);
        due("rounds(1, 0)", x.rounds(1, 0), BAD);
        due("rounds(1, 4)", x.rounds(1, 4), BAD);
        due("rounds(1, 2)", x.rounds(1, 2), 2);
        due("rounds(1, 1)", x.rounds(1, 1), 2);
        for (int g : new int[] {LEAST, -1, 2, GREATEST}) {
            due("rounds(" + g + ", 1)", x.rounds(g, 1), BAD);
        }
    }

    private static void lists() {
        at("promise 6: LEVELS 0 .. 7, and -1");
        TakenInTurns x = with("a1b1c1d1e1f1g1h1;h>g>f>e>d>c>b>a;a=b=c=d=e=f=g=h;-;b>a=d>c;e");
        int[][] levels = {{7, 6, 5, 4, 3, 2, 1, 0}, {0, 0, 0, 0, 0, 0, 0, 0}, {-1, -1, -1, -1, -1, -1, -1, -1},
            {1, 0, 2, 1, -1, -1, -1, -1}, {-1, -1, -1, -1, 0, -1, -1, -1}};
        for (int who = 0; who < 5; who++) {
            for (int thing = 0; thing < 8; thing++) {
                due("level(0, " + who + ", " + thing + ")", x.level(0, who, thing), levels[who][thing]);
            }
        }
        for (int bad : new int[] {LEAST, -1, 8, GREATEST}) {
            due("level of thing " + bad, x.level(0, 0, bad), VOID);
            due("level of person " + bad, x.level(0, bad == 8 ? 5 : bad, 0), VOID);
            due("level in giving " + bad, x.level(bad == 8 ? 1 : bad, 0, 0), VOID);
        }
        at("promise 7: listed");
        int[][] things = {{7, 6, 5, 4, 3, 2, 1, 0}, {0, 1, 2, 3, 4, 5, 6, 7}, {}, {1, 0, 3, 2}, {4}};
        for (int who = 0; who < 5; who++) {
            due("listed(0, " + who + ", -2)", x.listed(0, who, -2), BAD);
            due("listed(0, " + who + ", -1)", x.listed(0, who, -1), things[who].length);
            for (int i = 0; i < things[who].length; i++) {
                due("listed(0, " + who + ", " + i + ")", x.listed(0, who, i), things[who][i]);
            }
            due("listed behind the last", x.listed(0, who, things[who].length), BAD);
            due("listed", x.listed(0, who, GREATEST), BAD);
            due("listed", x.listed(0, who, LEAST), BAD);
        }
        for (int bad : new int[] {LEAST, -1, 5, GREATEST}) {
            due("listed of person " + bad, x.listed(0, bad, -1), BAD);
            due("listed in giving " + bad, x.listed(bad == 5 ? 1 : bad, 0, -1), BAD);
        }
        at("promise 8: takes the first of its LIST, as told, of which some is left");
        for (int bit = 0; bit < 8; bit++) {
            due("one thing left", x.takes(0, 0, 1 << bit), bit);
            due("one thing left", x.takes(0, 1, 1 << bit), bit);
            due("one thing is gone", x.takes(0, 0, 255 ^ 1 << bit), bit == 7 ? 6 : 7);
            due("one thing is gone", x.takes(0, 1, 255 ^ 1 << bit), bit == 0 ? 1 : 0);
            due("nothing of the list left", x.takes(0, 4, 1 << bit), bit == 4 ? 4 : NOT);
        }
        due("all are left", x.takes(0, 0, 255), 7);
        due("all are left", x.takes(0, 3, 255), 1);
        due("b is gone, a and d are alike", x.takes(0, 3, 253), 0);
        due("a, b are gone", x.takes(0, 3, 252), 3);
        due("only c", x.takes(0, 3, 244), 2);
        due("none of it", x.takes(0, 3, 240), NOT);
        due("an empty list", x.takes(0, 2, 255), NOT);
        due("nothing left", x.takes(0, 0, 0), NOT);
        for (int bad : new int[] {LEAST, -1, 5, GREATEST}) {
            due("takes of person " + bad, x.takes(0, bad, 1), BAD);
            due("takes in giving " + bad, x.takes(bad == 5 ? 1 : bad, 0, 1), BAD);
        }
    }

    // ---- promise 9

    private static void insteads() {
        at("promise 9: one LIST alone");
        String[] texts = {"", "a", "-", "*", "*a", "*b", "*c", "*a-", "*ba", "*bb>a", "a>", "a=b", "a=b>", "a>a", "c", ";a", "a;a",
            "-a", "a-", "a ", "*b-;", "*a-a", "b>a>c", "ab"};
        int[] answers = {-100, 1, 1, -101, -101, -102, -101, -101, 1, 1, -102, 1, -104, -102, -100, -100, -101,
            -101, -101, -101, -103, -101, -104, -101};
        for (int i = 0; i < texts.length; i++) {
            TakenInTurns x = with("a1b2;*aa>b;*ba;b");
            // a is held by 0; b by 1, and there are two of it.
            due("instead of 2: " + texts[i], instead(x, 0, 2, texts[i]), answers[i]);
            due("count(2)", x.count(2), 0);
            due("count(0)", x.count(0), answers[i] == 1 ? 2 : 1);
            due("listed of the old one", x.listed(0, 2, -1), 1);
            due("listed of the old one", x.listed(0, 2, 0), 1);
            due("held in the old one", x.of(0, 22), -1);
        }
        at("promise 9: what one held is told anew");
        TakenInTurns x = with("a1b2;*aa>b;*ba;b");
        x.rounds(0, 3);
        x.told(0, 1, 60);
        x.told(0, 21, 17);
        due("its own can be held again", instead(x, 0, 0, "*a-"), 1);
        due("or another one", instead(x, 0, 0, "*bb"), 2);
        due("or none", instead(x, 0, 0, "b>a"), 3);
        int[] held = {0, 0, 1, -1};
        int[] size = {2, 0, 1, 2};
        for (int g = 0; g < 4; g++) {
            due("of(" + g + ", 20)", x.of(g, 20), held[g]);
            due("of(" + g + ", 21)", x.of(g, 21), 1);
            due("of(" + g + ", 22)", x.of(g, 22), -1);
            due("listed(" + g + ", 0, -1)", x.listed(g, 0, -1), size[g]);
            due("listed(" + g + ", 1, 0)", x.listed(g, 1, 0), 0);
            due("rounds of " + g, x.of(g, 2), 3);
            share(x, g, TOLD, 1, 1, 1);
            share(x, g, TOLD, 21, 17, 60);
        }
        due("rounds of one alone", x.rounds(3, 1), 3);
        due("rounds", x.of(0, 2), 3);
        due("a part of one alone", x.told(3, 1, 0), 60);
        share(x, 0, TOLD, 1, 1, 1);
        at("promise 9: BAD, FULL: it stays in both");
        tell(x, "a");
        due("instead(4, 0)", x.instead(4, 0), BAD);
        due("instead(-1, 0)", x.instead(-1, 0), BAD);
        due("instead(0, 3)", x.instead(0, 3), BAD);
        due("instead(0, -1)", x.instead(0, -1), BAD);
        due("instead", x.instead(LEAST, GREATEST), BAD);
        due("count(2)", x.count(2), 1);
        due("the last one", x.instead(3, 2), 4);
        due("count(2)", x.count(2), 0);
        tell(x, "a");
        due("instead(4, 2)", x.instead(4, 2), FULL);
        due("count(2)", x.count(2), 1);
        due("instead(4, 3)", x.instead(4, 3), BAD);
        due("instead(5, 2)", x.instead(5, 2), BAD);
        due("count(2)", x.count(2), 1);
        due("count(0)", x.count(0), 5);
        due("giving", x.giving(), FULL);
        due("of the last one", x.listed(4, 2, 0), 0);
    }

    // ---- promises 10 to 14

    private static void lines() {
        at("promise 10: an ORDER has each of PEOPLE once, as digits");
        for (int people = 1; people <= 7; people++) {
            TakenInTurns x = with("a9b9" + repeat(";a", people));
            int up = 0, down = 0;
            for (int i = 0; i < people; i++) {
                up = 10 * up + i;
                down = 10 * down + people - 1 - i;
            }
            int ten = 1;
            for (int i = 0; i < people; i++) {
                ten *= 10;
            }
            due(people + " people, " + up, x.run(0, TURNS, up), 1);
            due(people + " people, " + down, x.run(0, TURNS, down), 1);
            int[] bad = {LEAST, GREATEST, -1, -down, up + 1, up - 1, up + 10, up + ten, down + ten, down * 10, up * 10 + people, down + 1};
            for (int order : bad) {
                int want = isLine(order, people) ? 1 : BAD;
                due(people + " people, run of " + order, x.run(0, BACK, order), want);
                due(people + " people, order " + order, x.order(0, order), want);
                due(people + " people, even", x.even(), want);
                due(people + " people, years from " + order, Math.min(1, x.years(0, order, 1, 0)), want);
            }
        }
        at("promise 10: the first the highest");
        TakenInTurns x = with("a1;a;a;a");
        for (int order : new int[] {12, 21, 102, 120, 201, 210}) {
            due("run", x.run(0, TURNS, order), 1);
            for (int who = 0; who < 3; who++) {
                due(order + ": has(" + who + ", 0)", x.has(who, 0), who == order / 100 ? 1 : 0);
            }
        }
        at("promise 10: TURNS and BACK alone");
        for (int way = -1; way <= 7; way++) {
            due("run by way " + way, x.run(0, way, 12), way == TURNS || way == BACK ? 1 : BAD);
        }
        due("run", x.run(0, GREATEST, 12), BAD);
        due("run", x.run(0, LEAST, 12), BAD);
        due("run of giving 1", x.run(1, TURNS, 12), BAD);
        due("run of giving -1", x.run(-1, TURNS, 12), BAD);
        due("has behind refused runs", x.has(0, 0), 1);
    }

    private static boolean isLine(int order, int people) {
        boolean[] seen = new boolean[10];
        int rest = order;
        for (int i = 0; i < people; i++) {
            if (rest < 0 || seen[rest % 10] || rest % 10 >= people) {
                return false;
            }
            seen[rest % 10] = true;
            rest /= 10;
        }
        return rest == 0;
    }

    private static void runs() {
        at("promise 10: by BACK each second ROUND the other way round, the third one not");
        TakenInTurns x = with("a1b1c1d1e1f1;a>b>c>d>e>f;a>b>c>d>e>f", "a1;a;-");
        x.rounds(0, 3);
        due("run", x.run(0, BACK, 10), 1);
        has(x, new int[][] {{0, 1, 1, 0, 0, 1}, {1, 0, 0, 1, 1, 0}});
        int[][] turns = {{1, 2, 5}, {0, 3, 4}};
        at("promise 13: led, over all ROUNDS");
        for (int who = 0; who < 2; who++) {
            for (int i = 0; i < 3; i++) {
                due("led(" + who + ", " + i + ", 0)", x.led(who, i, 0), turns[who][i]);
                due("led(" + who + ", " + i + ", 1)", x.led(who, i, 1), turns[who][i]);
            }
            for (int i : new int[] {LEAST, -1, 3, 4, GREATEST}) {
                due("led(" + who + ", " + i + ", 0)", x.led(who, i, 0), BAD);
                due("led(" + who + ", " + i + ", 1)", x.led(who, i, 1), BAD);
            }
            for (int what : new int[] {LEAST, -1, 2, GREATEST}) {
                due("led(" + who + ", 0, " + what + ")", x.led(who, 0, what), BAD);
            }
        }
        due("run", x.run(0, TURNS, 10), 1);
        has(x, new int[][] {{0, 1, 0, 1, 0, 1}, {1, 0, 1, 0, 1, 0}});
        due("led", x.led(1, 2, 0), 4);
        due("led", x.led(0, 2, 0), 5);
        for (int bad : new int[] {LEAST, -1, 2, GREATEST}) {
            due("led of person " + bad, x.led(bad, 0, 0), BAD);
            due("has of person " + bad, x.has(bad, 0), BAD);
        }
        at("promise 11: has");
        for (int bad : new int[] {LEAST, -1, 6, GREATEST}) {
            due("has of thing " + bad, x.has(0, bad), BAD);
            due("left of thing " + bad, x.left(bad), BAD);
        }
        at("promises 11, 12: by the latest run, and of its giving");
        due("run", x.run(1, TURNS, 1), 1);
        has(x, new int[][] {{1}, {0}});
        due("has(0, 1)", x.has(0, 1), BAD);
        due("left(0)", x.left(0), 0);
        due("left(1)", x.left(1), BAD);
        due("led of one that took nothing", x.led(1, 0, 0), BAD);
        due("run", x.run(0, BACK, 1), 1);
        due("has(0, 5)", x.has(1, 5), 1);
        due("left(5)", x.left(5), 0);
        fewAndMany();
    }

    private static void fewAndMany() {
        at("promise 12: how many are left, from none to nine");
        TakenInTurns x = with("a9b2c1;*aa;*ba>c;b>a>c", "a1b1;b;a>b");
        for (int n = 1; n <= 3; n++) {
            x.rounds(0, n);
            due("run", x.run(0, TURNS, 12), 1);
            due("left(0)", x.left(0), 9 - (n < 3 ? 2 * n : 7));
            due("left(1)", x.left(1), n < 3 ? 2 - n : 0);
            due("left(2)", x.left(2), 1);
            due("has(0, 0)", x.has(0, 0), n);
        }
        at("promise 13: turns in which nothing is taken are counted, too");
        x.rounds(1, 2);
        due("run", x.run(1, BACK, 10), 1);
        due("led(1, 0, 0)", x.led(1, 0, 0), 0);
        due("led(0, 0, 0)", x.led(0, 0, 0), 1);
        due("led(0, 1, 0)", x.led(0, 1, 0), BAD);
        due("run", x.run(1, TURNS, 1), 1);
        due("led(1, 0, 0)", x.led(1, 0, 0), 1);
        due("led(1, 0, 1)", x.led(1, 0, 1), 0);
        x = with("a2b1;a;b>a");
        x.rounds(0, 3);
        due("run", x.run(0, TURNS, 1), 1);
        due("led(0, 0, 0)", x.led(0, 0, 0), 0);
        due("led(1, 0, 0)", x.led(1, 0, 0), 1);
        due("led(0, 1, 0)", x.led(0, 1, 0), 2);
        due("led(1, 1, 0)", x.led(1, 1, 0), BAD);
        due("led(0, 2, 0)", x.led(0, 2, 0), BAD);
        at("promises 11 to 13: what a run was stays, whatever ROUNDS become");
        x.rounds(0, 1);
        due("has(0, 0)", x.has(0, 0), 2);
        due("led(0, 1, 0)", x.led(0, 1, 0), 2);
        due("left(0)", x.left(0), 0);
        at("promise 14: no ring behind a run");
        due("ring(-1)", x.ring(-1), NOT);
        for (int i : new int[] {LEAST, -2, 0, 1, 6, GREATEST}) {
            due("ring(" + i + ")", x.ring(i), BAD);
        }
    }

    // ---- promises 15 to 20

    private static void ways() {
        at("promise 15: WAYS 0 .. 14 of KINDS 0 .. 6");
        TakenInTurns x = new TakenInTurns();
        for (int i = 0; i < 15; i++) {
            for (int bad : new int[] {LEAST, -1, 7, GREATEST}) {
                due("way(" + bad + ")", x.way(bad), BAD);
            }
            due("kindOf(" + i + ")", x.kindOf(i), BAD);
            due("way", x.way(6 - i % 7), i);
            due("count(1)", x.count(1), i + 1);
            due("kindOf(" + i + ")", x.kindOf(i), 6 - i % 7);
        }
        for (int kind = 0; kind < 7; kind++) {
            due("way(" + kind + ")", x.way(kind), FULL);
        }
        due("way(7)", x.way(7), BAD);
        due("way(-1)", x.way(-1), BAD);
        due("count(1)", x.count(1), 15);
        at("promise 16: kindOf");
        for (int i = 0; i < 15; i++) {
            due("kindOf(" + i + ")", x.kindOf(i), 6 - i % 7);
        }
        for (int bad : new int[] {LEAST, -1, 15, GREATEST}) {
            due("kindOf(" + bad + ")", x.kindOf(bad), BAD);
        }
    }

    private static void shares() {
        at("promise 17: which numbers there are");
        TakenInTurns x = with("a1b2;a;b;-");
        for (int way = -1; way <= 7; way++) {
            long want = way < 0 || way > 6 ? BAD : 1;
            due("share by way " + way, x.share(0, way, 0, 1), want);
        }
        for (int at : new int[] {LEAST, -11, -10, -1, 2, 8, 9, 12, 19, 22, 30, 31, 100, GREATEST}) {
            due("share at " + at, x.share(0, TURNS, at, 0), BAD);
            due("share at " + at, x.share(0, TURNS, at, 1), BAD);
            due("told at " + at, x.told(0, at, 1), BAD);
        }
        for (int what : new int[] {LEAST, -1, 2, GREATEST}) {
            due("share, what " + what, x.share(0, TURNS, 0, what), BAD);
        }
        for (int bad : new int[] {LEAST, -1, 1, GREATEST}) {
            due("share of giving " + bad, x.share(bad, TURNS, 0, 0), BAD);
            due("share of giving " + bad, x.share(bad, WAY, 0, 1), BAD);
        }
        share(x, 0, TURNS, 0, 1, 1);
        share(x, 0, TURNS, 11, 1, 1);
        share(x, 0, TURNS, 21, 0, 1);
        at("promise 17: none of anything by WAY");
        for (int who = 0; who < 3; who++) {
            for (int thing = 0; thing < 2; thing++) {
                share(x, 0, WAY, 10 * who + thing, 0, 1);
            }
        }
        at("promise 17: in the mean over all ORDERS, without common factors, from one to seven");
        for (int n = 1; n <= 7; n++) {
            x = with("a1b2" + repeat(";a>b", n), "a3" + repeat(";a", n));
            for (int who : new int[] {0, n - 1}) {
                share(x, 0, TURNS, 10 * who, 1, n);
                share(x, 0, BACK, 10 * who, 1, n);
                int top = Math.min(2, n - 1), common = top == 2 && n % 2 == 0 ? 2 : top == 0 ? n : 1;
                share(x, 0, TURNS, 10 * who + 1, top / common, n / common);
                share(x, 1, TURNS, 10 * who, n <= 3 ? 1 : n == 6 ? 1 : 3, n <= 3 ? 1 : n == 6 ? 2 : n);
            }
            due("share of one more", x.share(0, TURNS, 10 * n, 0), BAD);
        }
        at("promise 17: shares follow ROUNDS");
        x = with("a9b1c1;a>b;b>a");
        for (int rounds = 1; rounds <= 3; rounds++) {
            x.rounds(0, rounds);
            share(x, 0, TURNS, 0, rounds, 1);
            share(x, 0, TURNS, 11, 1, 1);
            share(x, 0, TURNS, 10, rounds - 1, 1);
            share(x, 0, EATING, 0, rounds, 1);
            share(x, 0, EATING, 10, rounds - 1, 1);
        }
        at("promise 17: what is HELD ahead does not matter to TURNS, BACK, EATING, TOLD");
        x = with("a1b1;*bb>a;*aa>b", "a1b1;b>a;a>b");
        x.told(0, 0, 7);
        x.told(1, 0, 7);
        for (int way : new int[] {TURNS, BACK, EATING, TOLD, MEND}) {
            for (int at : new int[] {0, 1, 10, 11}) {
                due("share by " + way + " at " + at, x.share(0, way, at, 0), x.share(1, way, at, 0));
                due("share by " + way + " at " + at, x.share(0, way, at, 1), x.share(1, way, at, 1));
            }
        }
        share(x, 0, TRADE, 1, 1, 1);
        share(x, 1, TRADE, 1, 1, 1);
        share(x, 1, TRADE, 10, 1, 1);
    }

    private static void eating() {
        at("promise 18: stops");
        TakenInTurns x = with("a1b1c1;-;-", "a1b1;a;b", "a9;a;a", "a1b2c3;a>b>c;c>b", "a1b1c1d1;a>b>c>d;a>b>c>d;a>b>c>d");
        int[][] stops = {{0, 0, 0}, {1, 1, 1}, {1, 1, 1}, {1, 2, 2}, {3, 4, 4}};
        for (int rounds = 1; rounds <= 3; rounds++) {
            for (int g = 0; g < 5; g++) {
                x.rounds(g, rounds);
                due("stops(" + g + ") of " + rounds + " rounds", x.stops(g), stops[g][rounds - 1]);
            }
        }
        for (int bad : new int[] {LEAST, -1, 5, GREATEST}) {
            due("stops(" + bad + ")", x.stops(bad), BAD);
        }
        // Three at one thing: a third of the time each. With time 3, all four are eaten at 4/3, and nobody eats any more.
        x.rounds(4, 1);
        due("stops: a, b, c are eaten at 1/3, 2/3, 1", x.stops(4), 3);
        share(x, 4, EATING, 2, 1, 3);
        share(x, 4, EATING, 3, 0, 1);
        x.rounds(4, 3);
        due("stops", x.stops(4), 4);
        share(x, 4, EATING, 23, 1, 3);
        at("promise 18: who finds none rests, and goes on resting");
        x = with("a1b1c2;a;a>b;b>c", "a1b1;a>b;b>a", "a2b1;a=b;b", "a1b1c1d1e1f1g1h1" + repeat(";a>b>c>d>e>f>g>h", 6));
        due("stops(0)", x.stops(0), 3);
        share(x, 0, EATING, 0, 1, 2);
        share(x, 0, EATING, 1, 0, 1);
        share(x, 0, EATING, 10, 1, 2);
        share(x, 0, EATING, 11, 1, 4);
        share(x, 0, EATING, 21, 3, 4);
        share(x, 0, EATING, 22, 1, 4);
        at("promise 18: two things and the time end at one stop");
        due("stops(1)", x.stops(1), 1);
        x.rounds(1, 2);
        due("stops(1)", x.stops(1), 1);
        share(x, 1, EATING, 1, 0, 1);
        at("promise 17: of things alike the first, as told, is eaten");
        due("stops(2)", x.stops(2), 1);
        share(x, 2, EATING, 0, 1, 1);
        share(x, 2, EATING, 1, 0, 1);
        at("promise 17: six eat eight things");
        due("stops(3)", x.stops(3), 6);
        for (int rounds = 2; rounds <= 3; rounds++) {
            x.rounds(3, rounds);
            due("stops(3)", x.stops(3), 8);
        }
        for (int thing = 0; thing < 8; thing++) {
            share(x, 3, EATING, 50 + thing, 1, 6);
        }
    }

    private static void trades() {
        at("promise 17: TRADE, nobody holds anything");
        TakenInTurns x = with("a1b1;a>b;a>b;a>b;-", "a1b1;*a-;*b-", "a1b1;*ab;*ba", "a1;*aa", "a2;*a-;a;a");
        sixtieths(x, 0, TRADE, new int[][] {{60, 0}, {0, 60}, {0, 0}, {0, 0}});
        at("promise 17: TRADE, nobody lists anything");
        sixtieths(x, 1, TRADE, new int[][] {{60, 0}, {0, 60}});
        at("promise 17: TRADE, a ring of two, of one");
        sixtieths(x, 2, TRADE, new int[][] {{0, 60}, {60, 0}});
        sixtieths(x, 3, TRADE, new int[][] {{60}});
        at("promise 17: TRADE, what is not HELD is taken by those that have nothing, until it is gone");
        sixtieths(x, 4, TRADE, new int[][] {{60}, {60}, {0}});
        x = with("a1b1c1d1e1f1g1;*ab;*bc;*cd;*de;*ef;*fg;*ga", "a2b1;*ab;*ab;*ba", "a3b1;*ab;*ab>a;*ba", "a2b1;*ab;*aa>b;*ba",
            "a1b1c1;*cb;*bb;*aa>b>c");
        at("promise 17: TRADE, a ring of seven");
        for (int who = 0; who < 7; who++) {
            share(x, 0, TRADE, 10 * who + (who + 1) % 7, 1, 1);
            share(x, 0, TRADE, 10 * who + who, 0, 1);
        }
        at("promise 17: TRADE, the least of two that hold a thing; the other one is done with what it holds");
        sixtieths(x, 1, TRADE, new int[][] {{0, 60}, {60, 0}, {60, 0}});
        sixtieths(x, 2, TRADE, new int[][] {{0, 60}, {60, 0}, {60, 0}});
        at("promise 17: TRADE, itself if it holds that, though a lesser one holds it too");
        sixtieths(x, 3, TRADE, new int[][] {{0, 60}, {60, 0}, {60, 0}});
        at("promise 17: TRADE, when the only one to point to is done, one is done with what it holds");
        sixtieths(x, 4, TRADE, new int[][] {{0, 0, 60}, {0, 60, 0}, {60, 0, 0}});
        at("promise 17: TRADE, one thing each is taken in the end, whatever the ROUNDS; what was traded is not left");
        x = with("a1b3;*aa;b;a>b;b", "a2b1;*ab;a>b;b>a;a", "a1b1c1;*ab>c;*bc;a>c>b");
        x.rounds(0, 3);
        sixtieths(x, 0, TRADE, new int[][] {{60, 0}, {0, 60}, {0, 60}, {0, 60}});
        // Nobody holds b: 0 is done with its a; then 1 takes the other a, 2 takes b, and 3 finds none.
        sixtieths(x, 1, TRADE, new int[][] {{60, 0}, {60, 0}, {0, 60}, {0, 0}});
        // Nobody holds c: 1 is done at once with b, so is 0 with a; 2 takes c.
        sixtieths(x, 2, TRADE, new int[][] {{60, 0, 0}, {0, 60, 0}, {0, 0, 60}});
    }

    private static void mends() {
        at("promise 17: MEND, just as much as may be is not taken off, one more is");
        TakenInTurns x = with("a1b1c9;a>b;b>a>c;c");
        table(x, 0, new int[][] {{30, 30, 0}, {30, 30, 0}, {0, 0, 60}});
        sixtieths(x, 0, MEND, new int[][] {{30, 30, 0}, {30, 30, 0}, {0, 0, 60}});
        x.told(0, 0, 31);
        // 0 has 61: one of b is taken off; then a is 61: one is taken off from 1.
        sixtieths(x, 0, MEND, new int[][] {{31, 29, 0}, {29, 30, 0}, {0, 0, 60}});
        sixtieths(x, 0, TOLD, new int[][] {{31, 30, 0}, {30, 30, 0}, {0, 0, 60}});
        x.told(0, 0, 30);
        x.told(0, 2, 1);
        x.told(0, 21, 60);
        x.told(0, 20, 1);
        sixtieths(x, 0, MEND, new int[][] {{30, 30, 0}, {30, 30, 0}, {0, 0, 60}});
        x.told(0, 12, 1);
        sixtieths(x, 0, MEND, new int[][] {{30, 30, 0}, {30, 30, 0}, {0, 0, 60}});
        x.rounds(0, 2);
        sixtieths(x, 0, MEND, new int[][] {{30, 30, 0}, {30, 30, 1}, {0, 0, 60}});
        at("promise 17: MEND, all of a thing, and more than one thing, is taken off");
        x = with("a1b1c1;a>b>c;a;-", "a2;a;a;a", "a9;a;a");
        table(x, 0, new int[][] {{60, 60, 60}, {60, 60, 60}, {60, 60, 60}});
        sixtieths(x, 0, MEND, new int[][] {{60, 0, 0}, {0, 0, 0}, {0, 0, 0}});
        x.rounds(0, 2);
        sixtieths(x, 0, MEND, new int[][] {{60, 60, 0}, {0, 0, 0}, {0, 0, 0}});
        x.rounds(0, 3);
        sixtieths(x, 0, MEND, new int[][] {{60, 60, 60}, {0, 0, 0}, {0, 0, 0}});
        table(x, 1, new int[][] {{60}, {60}, {60}});
        sixtieths(x, 1, MEND, new int[][] {{60}, {60}, {0}});
        x.told(1, 0, 59);
        sixtieths(x, 1, MEND, new int[][] {{59}, {60}, {1}});
        table(x, 2, new int[][] {{60}, {60}});
        sixtieths(x, 2, MEND, new int[][] {{60}, {60}});
        at("promise 17: TOLD, 0 at first, 0 .. 60");
        x = with("a1b1;a;b");
        sixtieths(x, 0, TOLD, new int[][] {{0, 0}, {0, 0}});
        share(x, 0, TOLD, 11, 0, 1);
        for (int v : new int[] {1, 2, 15, 59, 60}) {
            x.told(0, 11, v);
            int common = v == 2 ? 2 : v == 15 ? 15 : v == 60 ? 60 : 1;
            share(x, 0, TOLD, 11, v / common, 60 / common);
        }
    }

    private static void comparing() {
        at("promise 19: as much at each LEVEL, and more at some");
        TakenInTurns x = with("a1b1c1;a>b>c;b>c", "a1b1c1;a=b>c;-", "a1b1c1;c;c>a");
        table(x, 0, new int[][] {{30, 20, 10}, {60, 0, 0}});
        due("a row against itself", x.rather(0, 0, TOLD, TOLD), 0);
        due("something against nothing", x.rather(0, 0, TOLD, WAY), 1);
        due("nothing against something", x.rather(0, 0, WAY, TOLD), -1);
        due("only what is not of the list", x.rather(0, 1, TOLD, WAY), 0);
        int[][] rows = {{30, 20, 10}, {31, 20, 10}, {30, 21, 10}, {30, 20, 11}, {29, 21, 10}, {31, 19, 10}, {31, 18, 10}, {31, 18, 11},
            {29, 22, 10}, {30, 19, 11}, {30, 19, 12}, {29, 20, 10}, {60, 0, 0}, {0, 0, 60}, {59, 0, 1}};
        // By EATING 0 has all of a, and so 60 at each LEVEL.
        for (int[] row : rows) {
            table(x, 0, row, new int[] {0, 0, 0});
            int[] mine = {row[0], row[0] + row[1], row[0] + row[1] + row[2]};
            due("against EATING " + Arrays.toString(row), x.rather(0, 0, TOLD, EATING), compare(mine, new int[] {60, 60, 60}));
            due("EATING against " + Arrays.toString(row), x.rather(0, 0, EATING, TOLD), compare(new int[] {60, 60, 60}, mine));
        }
        at("promise 19: LEVELS, not things");
        table(x, 1, new int[][] {{0, 60, 0}, {0, 0, 60}});
        due("b for a, which are alike", x.rather(1, 0, TOLD, EATING), 0);
        table(x, 1, new int[][] {{30, 29, 1}, {0, 0, 60}});
        due("one less of the best", x.rather(1, 0, TOLD, EATING), -1);
        table(x, 1, new int[][] {{30, 29, 2}, {0, 0, 60}});
        due("one less of the best, one more in all", x.rather(1, 0, TOLD, EATING), 2);
        due("the other way round", x.rather(1, 0, EATING, TOLD), 2);
        table(x, 1, new int[][] {{31, 29, 1}, {0, 0, 60}});
        due("one more in all", x.rather(1, 0, TOLD, EATING), 1);
        due("an empty list", x.rather(1, 1, TOLD, WAY), 0);
        for (int bad : new int[] {LEAST, -1, 7, GREATEST}) {
            due("way " + bad, x.rather(0, 0, bad, WAY), VOID);
            due("other " + bad, x.rather(0, 0, WAY, bad), VOID);
            due("person " + bad, x.rather(0, bad == 7 ? 2 : bad, WAY, WAY), VOID);
            due("giving " + bad, x.rather(bad == 7 ? 3 : bad, 0, WAY, WAY), VOID);
            due("envy, way " + bad, x.envy(0, bad), BAD);
            due("envy, giving " + bad, x.envy(bad == 7 ? 3 : bad, WAY), BAD);
        }
        due("of person 0 in the last giving", x.rather(2, 1, WAY, MEND), 0);
        envies();
    }

    private static int compare(int[] a, int[] b) {
        boolean more = false, less = false;
        for (int i = 0; i < a.length; i++) {
            more |= a[i] > b[i];
            less |= a[i] < b[i];
        }
        return more && less ? 2 : more ? 1 : less ? -1 : 0;
    }

    private static void envies() {
        at("promise 20: the first two, i, then j");
        TakenInTurns x = with("a9b9;a>b;a>b;a>b", "a1" + repeat(";a", 7), "a1;a", "a1b1;b;b>a");
        int[][][] tables = {{{30, 30}, {30, 30}, {30, 30}}, {{30, 30}, {30, 30}, {31, 29}}, {{30, 29}, {30, 30}, {30, 30}},
            {{30, 30}, {29, 31}, {30, 30}}, {{30, 30}, {30, 31}, {29, 33}}, {{30, 30}, {29, 32}, {28, 34}}, {{29, 31}, {29, 31}, {29, 32}},
            {{60, 0}, {0, 60}, {60, 0}}, {{30, 30}, {31, 28}, {29, 32}}};
        int[] dues = {NOT, 2, 1, 10, 1, NOT, 2, 10, NOT};
        for (int i = 0; i < tables.length; i++) {
            table(x, 0, tables[i]);
            due("envy of table " + i, x.envy(0, TOLD), dues[i]);
        }
        table(x, 0, new int[][] {{60, 0}, {60, 0}, {0, 60}});
        due("the last one envies the first", x.envy(0, TOLD), 20);
        at("promise 20: what is not of i's LIST is no reason");
        table(x, 3, new int[][] {{0, 30}, {60, 30}});
        due("a more, which 0 does not list", x.envy(3, TOLD), NOT);
        table(x, 3, new int[][] {{60, 30}, {0, 30}});
        due("a more, which 1 lists", x.envy(3, TOLD), 10);
        at("promise 20: one of PEOPLE, seven of them, nothing had");
        due("alone", x.envy(2, EATING), NOT);
        due("nothing had", x.envy(1, WAY), NOT);
        due("seven alike", x.envy(1, TURNS), NOT);
        x.told(1, 60, 1);
        due("the last one has some", x.envy(1, TOLD), 6);
        for (int who = 0; who < 6; who++) {
            x.told(1, 10 * who, 1);
        }
        due("all have some", x.envy(1, TOLD), NOT);
        x.told(1, 60, 0);
        due("all but the last one", x.envy(1, TOLD), 60);
    }

    // ---- promises 21, 22

    private static void lies() {
        at("promise 21: digits, all of them once");
        TakenInTurns x = with("a1b1c1d1e1f1g1h1;a>b>c>d>e>f>g>h;a;b>a;-;a>b>c>d>e;a>b>c>d>e>f");
        due("eight", x.wrongly(0, 0, TURNS, 12345678), 0);
        int[] bad = {0, 1, 1234567, 12345677, 12345670, 12345679, 2345678, 23456781 + 100000000, 123456780, 1234567812, -12345678, LEAST, GREATEST};
        for (int digits : bad) {
            due("eight, " + digits, x.wrongly(0, 0, EATING, digits), VOID);
        }
        due("one", x.wrongly(0, 1, TURNS, 1), 0);
        for (int digits : new int[] {LEAST, -1, 0, 2, 9, 10, 11, 12, 21, GREATEST}) {
            due("one, " + digits, x.wrongly(0, 1, TURNS, digits), VOID);
        }
        due("two", x.wrongly(0, 2, EATING, 12), 0);
        due("two", x.wrongly(0, 2, EATING, 21) == VOID ? VOID : 1, 1);
        for (int digits : new int[] {-12, -21, 0, 1, 2, 10, 11, 13, 20, 22, 23, 112, 120, 210}) {
            due("two, " + digits, x.wrongly(0, 2, EATING, digits), VOID);
        }
        for (int digits : new int[] {LEAST, -1, 1, 10, 12, GREATEST}) {
            due("an empty list, " + digits, x.wrongly(0, 3, TURNS, digits), VOID);
        }
        at("promises 21, 22: TURNS and EATING alone");
        for (int way = -1; way <= 7; way++) {
            boolean fine = way == TURNS || way == EATING;
            due("wrongly by way " + way, x.wrongly(0, 1, way, 1), fine ? 0 : VOID);
            due("gains by way " + way, x.gains(0, 1, way), fine ? NOT : BAD);
            due("gains of six by way " + way, x.gains(0, 5, way), fine ? BIG : BAD);
        }
        for (int b : new int[] {LEAST, -1, 6, GREATEST}) {
            due("wrongly of person " + b, x.wrongly(0, b, TURNS, 1), VOID);
            due("gains of person " + b, x.gains(0, b, TURNS), BAD);
            due("wrongly in giving " + b, x.wrongly(b == 6 ? 1 : b, 1, TURNS, 1), VOID);
            due("gains in giving " + b, x.gains(b == 6 ? 1 : b, 1, TURNS), BAD);
        }
        at("promise 22: at most 5 things");
        due("eight", x.gains(0, 0, EATING), BIG);
        due("six", x.gains(0, 5, EATING), BIG);
        due("five is not BIG", x.gains(0, 4, EATING) == BIG ? BIG : 1, 1);
        due("none", x.gains(0, 3, EATING), NOT);
        at("promise 21: better, worse, alike, or it can't be told");
        x = with("a1b1c1d1;a>b>c>d;b>c>a>d", "a1b1c1d1e1;a>b>c>d>e;b>c>a>d>e", "a1b1;a=b;a>b", "a1b1c1;a>b>c;a>c;b>c");
        x.rounds(0, 2);
        x.rounds(1, 2);
        due("alike", x.wrongly(0, 0, TURNS, 1234), 0);
        due("better", x.wrongly(0, 0, TURNS, 2134), 1);
        due("worse", x.wrongly(0, 0, TURNS, 4321), -1);
        due("gains", x.gains(0, 0, TURNS), 2134);
        due("gains with five", x.gains(1, 0, TURNS), 21345);
        x.rounds(0, 1);
        due("gains with one turn each", x.gains(0, 0, TURNS), NOT);
        due("the same with one turn each", x.wrongly(0, 0, TURNS, 2134), -1);
        at("promise 21: without ties, and better by the true LIST with its ties");
        // Told b ahead of a, 0 has all of b, and of things alike nothing less; told a ahead of b, nothing changes.
        due("b ahead", x.wrongly(2, 0, TURNS, 21), 0);
        due("a ahead", x.wrongly(2, 0, TURNS, 12), 0);
        due("gains", x.gains(2, 0, TURNS), NOT);
        due("gains by EATING", x.gains(2, 0, EATING), NOT);
        at("promise 21: what is told is not kept");
        due("listed(0, 0, 0)", x.listed(0, 0, 0), 0);
        due("level(2, 0, 1)", x.level(2, 0, 1), 0);
        due("count(0)", x.count(0), 4);
        share(x, 2, TURNS, 0, 1, 2);
    }

    // ---- promises 23 to 26

    private static void tables() {
        at("promise 23: parts 0 .. 60");
        TakenInTurns x = with("a1b1c1;a;b", "a1b1c1d1e1f1g1h1" + repeat(";a", 7));
        for (int v : new int[] {LEAST, -1, 61, 62, GREATEST}) {
            due("told(0, 0, " + v + ")", x.told(0, 0, v), BAD);
        }
        due("told 0", x.told(0, 0, 0), 0);
        due("told 60", x.told(0, 0, 60), 0);
        due("told -1", x.told(0, 0, -1), BAD);
        due("told 61", x.told(0, 0, 61), BAD);
        due("told 1", x.told(0, 0, 1), 60);
        due("told 0", x.told(0, 0, 0), 1);
        for (int at : new int[] {LEAST, -1, 3, 9, 13, 20, GREATEST}) {
            due("told at " + at, x.told(0, at, 1), BAD);
        }
        due("told at 12", x.told(0, 12, 5), 0);
        due("told at 2", x.told(0, 2, 6), 0);
        due("told at 12", x.told(0, 12, 0), 5);
        due("told at 2", x.told(0, 2, 0), 6);
        due("told at 67", x.told(1, 67, 5), 0);
        due("told at 67", x.told(1, 67, 5), 5);
        due("told at 68", x.told(1, 68, 5), BAD);
        due("told at 70", x.told(1, 70, 5), BAD);
        for (int bad : new int[] {LEAST, -1, 2, GREATEST}) {
            due("told of giving " + bad, x.told(bad, 0, 1), BAD);
            due("table of giving " + bad, x.table(bad, 0, 0), BAD);
            due("bars of giving " + bad, x.bars(bad), BAD);
            due("parted of giving " + bad, x.parted(bad, -1, 0), BAD);
        }
        at("promise 24: it ends where the row is missing, ends, or holds none of 0 .. 60");
        due("a shelf that holds nothing", x.table(0, 0, 0), 0);
        for (int n = 0; n <= 8; n++) {
            x.row(0, 0, n);
            for (int i = 0; i < n; i++) {
                x.put(0, i, 10 * n + i > 60 ? 60 - i : 10 * n + i);
            }
            for (int i = Math.max(0, n - 2); i <= n + 1; i++) {
                due("a row of " + n + " from " + i, x.table(0, 0, i), Math.max(0, Math.min(6, n - i)));
            }
            due("a row of " + n + " from 0", x.table(0, 0, 0), Math.min(6, n));
            due("a row of " + n + " from -1", x.table(0, 0, -1), 0);
            due("a row of " + n, x.table(0, 0, LEAST), 0);
            due("a row of " + n, x.table(0, 0, GREATEST), 0);
            due("a row of " + n, x.table(0, 0, GREATEST - 5), 0);
        }
        rowTables();
    }

    private static void rowTables() {
        at("promise 24: those ahead came, others stay");
        int[] none = {-1, 61, 127, -128};
        for (int bad : none) {
            for (int place = 0; place < 4; place++) {
                TakenInTurns x = with("a1b1;a;b");
                table(x, 0, new int[][] {{1, 2}, {3, 4}});
                x.row(5, 0, 4);
                for (int i = 0; i < 4; i++) {
                    x.put(5, i, i == place ? bad : i % 2 == 0 ? 60 : 0);
                }
                due(bad + " at " + place, x.table(0, 5, 0), place);
                for (int i = 0; i < 4; i++) {
                    due("part " + i, x.told(0, 10 * (i / 2) + i % 2, 0), i >= place ? i + 1 : i % 2 == 0 ? 60 : 0);
                }
            }
        }
        at("promise 24: a row of bytes alone");
        TakenInTurns x = with("a1b1;a;b");
        int[] answers = {4, -12, -12, -12, -12};
        for (int sort = 0; sort < 5; sort++) {
            x.row(1, sort, 60);
            due("a row of sort " + sort, x.table(0, 1, 0), answers[sort]);
            due("a row of sort " + sort, x.table(0, 1, -1), sort == 0 ? 0 : -12);
            due("a row of sort " + sort, x.table(0, 1, 60), sort == 0 ? 0 : -12);
        }
        x.row(1, 0, 60);
        due("from 56", x.table(0, 1, 56), 4);
        due("from 57", x.table(0, 1, 57), 3);
        due("from 59", x.table(0, 1, 59), 1);
        due("from 60", x.table(0, 1, 60), 0);
        for (int way = 0; way < 7; way++) {
            x.keep(1, way);
            due("a way", x.table(0, 1, 0), -12);
        }
        for (int shelf : new int[] {LEAST, -1, 6, GREATEST}) {
            due("shelf " + shelf, x.table(0, shelf, 0), BAD);
        }
        due("shelf 5", x.table(0, 5, 0), 0);
        at("promise 24: 60 bytes are enough for seven times eight");
        x = with("a1b1c1d1e1f1g1h1" + repeat(";a", 7));
        x.row(0, 0, 60);
        for (int i = 0; i < 60; i++) {
            x.put(0, i, i);
        }
        due("from 5", x.table(0, 0, 5), 55);
        due("part 66", x.told(0, 66, 0), 59);
        due("part 67", x.told(0, 67, 0), 0);
        due("from 4", x.table(0, 0, 4), 56);
        due("part 67", x.told(0, 67, 0), 59);
        due("part 0", x.told(0, 0, 0), 4);
        due("part 7", x.told(0, 7, 0), 11);
        due("part 10", x.told(0, 10, 0), 12);
    }

    private static void bars() {
        at("promise 25: 60 ROUNDS of each at most");
        TakenInTurns x = with("a9b9c9d9;a>b>c>d;a>b>c>d;-", "a1b3;a>b;b>a", "a1" + repeat(";a", 7));
        int[][] full = {{60, 0, 0, 0}, {60, 60, 0, 0}, {60, 60, 60, 0}};
        for (int rounds = 1; rounds <= 3; rounds++) {
            x.rounds(0, rounds);
            table(x, 0, full[rounds - 1], full[rounds - 1]);
            due("just as many", x.bars(0), NOT);
            x.told(0, 13, 1);
            due("one more of 1", x.bars(0), 1);
            x.told(0, 3, 1);
            due("one more of 0, too", x.bars(0), 0);
            x.told(0, 13, 0);
            x.told(0, 3, 0);
            due("just as many", x.bars(0), NOT);
        }
        x.told(0, 20, 1);
        due("one that lists nothing", x.bars(0), 2);
        x.told(0, 20, 0);
        at("promise 25: of each THING 60 times how many there are at most");
        due("nothing told", x.bars(1), NOT);
        x.told(1, 0, 30);
        x.told(1, 10, 30);
        due("just as many of a", x.bars(1), NOT);
        x.told(1, 10, 31);
        due("one more of a", x.bars(1), 10);
        x.rounds(1, 3);
        x.told(1, 1, 60);
        x.told(1, 11, 60);
        due("still of a", x.bars(1), 10);
        x.told(1, 10, 30);
        due("120 of three b", x.bars(1), NOT);
        for (int who = 0; who < 7; who++) {
            x.told(2, 10 * who, who < 6 ? 9 : 6);
        }
        due("sixty by seven", x.bars(2), NOT);
        x.told(2, 60, 7);
        due("sixty-one by seven", x.bars(2), 10);
        at("promise 25: who, if not all of PEOPLE are lawful, ahead of the THING; the least");
        x = with("a1b1c1;a>b;a>b;a>b>c", "a1b1c1d1e1f1g1h1;h;h", "a1b1c1d1e1f1g1" + repeat(";g", 7));
        table(x, 0, new int[][] {{60, 0, 0}, {0, 60, 0}, {60, 60, 0}});
        due("2 has 120", x.bars(0), 2);
        x.told(0, 20, 0);
        due("b has 120", x.bars(0), 11);
        x.told(0, 0, 31);
        x.told(0, 10, 0);
        x.told(0, 20, 30);
        x.told(0, 21, 30);
        x.told(0, 11, 31);
        due("a and b have 61", x.bars(0), 10);
        x.told(0, 2, 1);
        due("0 has some of c", x.bars(0), 0);
        x.told(0, 2, 0);
        x.told(0, 12, 1);
        due("1 has some of c", x.bars(0), 1);
        x.told(1, 7, 60);
        due("sixty of h", x.bars(1), NOT);
        x.told(1, 17, 1);
        due("sixty-one of h", x.bars(1), 17);
        x.told(2, 65, 1);
        due("the last one has what it does not list", x.bars(2), 6);
    }

    private static void parting() {
        at("promise 26: ROUNDS 1, LAWFUL, 60 of each; else STATE");
        TakenInTurns x = with("a1b1;a>b;a>b", "a1;a", "a2b1;a;a>b", "a1b1;-;-");
        table(x, 0, new int[][] {{60, 0}, {0, 60}});
        due("one giving", x.parted(0, -1, 0), 1);
        due("it", x.parted(0, 0, 0), 1);
        due("its sixtieths", x.parted(0, 0, 1), 60);
        for (int rounds = 2; rounds <= 3; rounds++) {
            x.rounds(0, rounds);
            due(rounds + " rounds", x.parted(0, -1, 0), STATE);
            due(rounds + " rounds", x.parted(0, 0, 0), STATE);
            due(rounds + " rounds", x.parted(0, 0, 1), STATE);
        }
        x.rounds(0, 1);
        x.told(0, 0, 59);
        due("59 of 0", x.parted(0, -1, 0), STATE);
        x.told(0, 1, 1);
        due("61 of b", x.parted(0, -1, 0), STATE);
        x.told(0, 11, 59);
        due("59 of 1", x.parted(0, -1, 0), STATE);
        x.told(0, 10, 1);
        due("59 and 1", x.parted(0, -1, 0), 2);
        due("the first", x.parted(0, 0, 0), 1);
        due("its sixtieths", x.parted(0, 0, 1), 59);
        due("the second", x.parted(0, 1, 0), 10);
        due("its sixtieths", x.parted(0, 1, 1), 1);
        for (int i : new int[] {LEAST, -2, 2, 3, 60, GREATEST}) {
            due("parted(0, " + i + ", 0)", x.parted(0, i, 0), BAD);
            due("parted(0, " + i + ", 1)", x.parted(0, i, 1), BAD);
        }
        for (int what : new int[] {LEAST, -1, 2, GREATEST}) {
            due("parted(0, 0, " + what + ")", x.parted(0, 0, what), BAD);
        }
        due("nothing told", x.parted(1, -1, 0), STATE);
        x.told(1, 0, 60);
        due("one of PEOPLE, one THING", x.parted(1, -1, 0), 1);
        due("it", x.parted(1, 0, 0), 0);
        due("its sixtieths", x.parted(1, 0, 1), 60);
        table(x, 2, new int[][] {{60, 0}, {60, 0}});
        due("two of one THING", x.parted(2, 0, 0), 0);
        due("its sixtieths", x.parted(2, 0, 1), 60);
        due("lists are empty", x.parted(3, -1, 0), STATE);
        x.told(3, 0, 60);
        x.told(3, 11, 60);
        due("not lawful", x.parted(3, -1, 0), STATE);
        manyParts();
    }

    private static void manyParts() {
        at("promise 26: the first by THINGS of PEOPLE that leaves no THING with too many parts");
        TakenInTurns x = with("a1b1c2;a>b>c;a>b>c;a>b>c", "a1b1c1d1e1f1g1" + repeat(";a>b>c>d>e>f>g", 7),
            "a2b1;a>b;a>b", "a2b2;a>b;a>b");
        // b has all of its 60 parts, c 100 of 120: b comes in each, and c at least once in each behind the first 20.
        table(x, 0, new int[][] {{20, 0, 40}, {0, 20, 40}, {0, 40, 20}});
        partsDue(x, 0, new int[][] {{12, 20}, {221, 40}});
        // Only 10 parts of b are left over, so that both can have a for ten sixtieths alone.
        table(x, 2, new int[][] {{30, 30}, {40, 20}});
        partsDue(x, 2, new int[][] {{0, 10}, {1, 20}, {10, 30}});
        x.told(2, 10, 30);
        x.told(2, 11, 30);
        partsDue(x, 2, new int[][] {{1, 30}, {10, 30}});
        // Of two b nothing is left over too little: both have a as long as there is some.
        table(x, 3, new int[][] {{30, 30}, {40, 20}});
        partsDue(x, 3, new int[][] {{0, 30}, {10, 10}, {11, 20}});
        at("promise 26: seven of PEOPLE, each with some of seven THINGS");
        int[] turn = {9, 9, 9, 9, 9, 9, 6};
        for (int who = 0; who < 7; who++) {
            for (int k = 0; k < 7; k++) {
                x.told(1, 10 * who + (who + k) % 7, turn[k]);
            }
        }
        due("lawful", x.bars(1), NOT);
        int many = x.parted(1, -1, 0);
        due("some", many >= 7 && many <= 60 ? 1 : 0, 1);
        due("the first", x.parted(1, 0, 0), 123456);
        int all = 0;
        for (int i = 0; i < many; i++) {
            all += x.parted(1, i, 1);
        }
        due("all sixtieths", all, 60);
        due("one more", x.parted(1, many, 0), BAD);
    }

    private static void partsDue(TakenInTurns x, int giving, int[][] want) {
        due("how many", x.parted(giving, -1, 0), want.length);
        for (int i = 0; i < want.length; i++) {
            due("parted(" + giving + ", " + i + ", 0)", x.parted(giving, i, 0), want[i][0]);
            due("parted(" + giving + ", " + i + ", 1)", x.parted(giving, i, 1), want[i][1]);
        }
        due("one more", x.parted(giving, want.length, 0), BAD);
    }

    // ---- promises 27 to 31

    private static void evens() {
        at("promise 27: one to six ORDERS, each told once, of one giving");
        TakenInTurns x = with("a1b1c1;a>b>c;a>b>c;a>b>c", "a1b1c1;a>b>c;a>b>c;a>b>c");
        int[] orders = {210, 12, 21, 102, 120, 201};
        for (int i = 0; i < 6; i++) {
            due("order(0, " + orders[i] + ")", x.order(0, orders[i]), i + 1);
            due("order of another giving", x.order(1, orders[5 - i]), BAD);
            due("told again", x.order(0, orders[i]), BAD);
            due("the first one told again", x.order(0, 210), BAD);
            due("count(3)", x.count(3), i + 1);
        }
        x = with("a1b1c1d1" + repeat(";a>b>c>d", 4));
        int[] more = {123, 132, 213, 231, 312, 321};
        for (int i = 0; i < 6; i++) {
            due("order", x.order(0, more[i]), i + 1);
        }
        due("a seventh", x.order(0, 1023), FULL);
        due("a seventh, told", x.order(0, 321), BAD);
        due("a seventh, none", x.order(0, 1), BAD);
        due("a seventh, of no giving", x.order(1, 123), BAD);
        due("count(3)", x.count(3), 6);
        due("order", x.order(-1, 123), BAD);
        at("promise 28: they are none then");
        // 0 goes first always: the last one has 5 in the mean at most, as long as others go last.
        due("even", x.even() > 0 ? 1 : 0, 1);
        due("count(3)", x.count(3), 0);
        due("even", x.even(), BAD);
        due("order", x.order(0, 321), 1);
        due("even of one", x.even(), 1);
        due("evenIs(0)", x.evenIs(0), 5);
        due("evenIs(1)", x.evenIs(1), 1);
        evenSets();
    }

    private static int evenOf(TakenInTurns x, int giving, int... orders) {
        for (int order : orders) {
            x.order(giving, order);
        }
        return x.even();
    }

    private static void evenSets() {
        at("promise 28: the greatest; of like ones the fewest, then the least as bits");
        TakenInTurns x = with("a1b1c1;a>b>c;a>b>c;a>b>c", "a1b1;a;b", "a1;a;a", "a9;a;-");
        due("two of three", evenOf(x, 0, 12, 210, 102), 3);
        due("the last two", evenOf(x, 0, 102, 12, 210), 6);
        due("the first and the last", evenOf(x, 0, 12, 102, 210), 5);
        due("evenIs(0)", x.evenIs(0), 7);
        due("evenIs(1)", x.evenIs(1), 1);
        due("three, for the mean of 7 by two is not there", evenOf(x, 0, 12, 120, 201), 7);
        due("evenIs(0)", x.evenIs(0), 7);
        due("two pairs, the least as bits", evenOf(x, 0, 12, 21, 120, 210), 6);
        due("three pairs, the least as bits", evenOf(x, 0, 12, 210, 102, 201, 120, 21), 3);
        due("all sets of two have 6 and a half", evenOf(x, 0, 12, 102), 1);
        due("evenIs(0)", x.evenIs(0), 6);
        due("half a point more", evenOf(x, 0, 12, 120), 3);
        due("evenIs(0)", x.evenIs(0), 13);
        due("evenIs(1)", x.evenIs(1), 2);
        due("a single one is as good", evenOf(x, 1, 1, 10), 1);
        due("evenIs(0)", x.evenIs(0), 8);
        due("evenIs(1)", x.evenIs(1), 1);
        due("each half the time", evenOf(x, 2, 1, 10), 3);
        due("evenIs(0)", x.evenIs(0), 4);
        due("nothing is the least", evenOf(x, 3, 10, 1), 1);
        at("promise 29: evenIs");
        due("evenIs(0)", x.evenIs(0), 0);
        due("evenIs(1)", x.evenIs(1), 1);
        for (int what : new int[] {LEAST, -1, 2, GREATEST}) {
            due("evenIs(" + what + ")", x.evenIs(what), BAD);
        }
        due("even", x.even(), BAD);
        due("evenIs(1) behind a refused even", x.evenIs(1), 1);
        x.order(2, 1);
        due("evenIs(0) behind an order", x.evenIs(0), 0);
        at("promise 28: POINTS are 8 less LEVEL, in all ROUNDS");
        x = with("a3b1c1d1e1f1g1h1;a;b>c>d>e>f>g>h>a");
        x.rounds(0, 3);
        due("even", evenOf(x, 0, 1), 1);
        due("evenIs(0): 8, 7, 6 against 24", x.evenIs(0), 21);
        x = with("a1b1c1d1e1f1g1h3;a=b=c>h;a>b>c>d>e>f>g>h;d>e>f>g>h");
        x.rounds(0, 2);
        due("even", evenOf(x, 0, 210), 1);
        due("evenIs(0)", x.evenIs(0), 14);
        at("promise 28: ROUNDS as they are then");
        x.order(0, 210);
        x.rounds(0, 1);
        due("even", x.even(), 1);
        due("evenIs(0)", x.evenIs(0), 8);
    }

    private static void swaps() {
        at("promise 30: the least difference, the first as a number");
        TakenInTurns x = with("a1;a", "a1b1;a>b;a>b", "a1b1c1d1;a>b>c>d;a>b>c>d", "a1b1;a;b", "a1;-;-");
        int[][] orders = {{0, 0, 0}, {1, 1, 1}, {1, 1, 1}, {1, 1, 1}, {1, 1, 1}};
        int[][] gaps = {{0, 0, 0}, {1, 1, 1}, {1, 0, 0}, {0, 0, 0}, {0, 0, 0}};
        for (int rounds = 1; rounds <= 3; rounds++) {
            for (int g = 0; g < 5; g++) {
                x.rounds(g, rounds);
                due("swap(" + g + ", 0) of " + rounds, x.swap(g, 0), orders[g][rounds - 1]);
                due("swap(" + g + ", 1) of " + rounds, x.swap(g, 1), gaps[g][rounds - 1]);
            }
        }
        for (int bad : new int[] {LEAST, -1, 2, GREATEST}) {
            due("swap(0, " + bad + ")", x.swap(0, bad), BAD);
            due("swap of giving " + bad, x.swap(bad == 2 ? 5 : bad, 0), BAD);
        }
        at("promise 30: a later ORDER is less uneven");
        x = with("a1b1;a>b;a", "a1b1c1;a;a>b;a>b>c", "a1" + repeat(";a", 7));
        // 01: 8 and nothing; 10: 7 and 8.
        due("swap(0, 0)", x.swap(0, 0), 10);
        due("swap(0, 1)", x.swap(0, 1), 1);
        due("swap(1, 0)", x.swap(1, 0), 12);
        due("swap(1, 1)", x.swap(1, 1), 2);
        due("seven", x.swap(2, 0), 123456);
        due("seven", x.swap(2, 1), 8);
        due("count(0)", x.count(0), 3);
        due("no run is made by it", x.has(0, 0), BAD);
    }

    private static void years() {
        at("promise 31: one to nine YEARS");
        TakenInTurns x = with("a1b1;a>b;a>b", "a1;a", "a1" + repeat(";a", 7), "a1b1;b;b>a");
        // Behind two years both have 15, and 1 goes ahead of 0 again, as in the year ahead; behind four it is 0 again.
        int[] first = {8, 15, 22, 30, 38, 45, 52, 60, 68};
        int[] second = {7, 15, 23, 30, 37, 45, 53, 60, 67};
        int[] then = {10, 10, 1, 1, 10, 10, 1, 1, 10};
        for (int n = 1; n <= 9; n++) {
            due("of 0, " + n, x.years(0, 1, n, 0), first[n - 1]);
            due("of 1, " + n, x.years(0, 1, n, 1), second[n - 1]);
            due("the order, " + n, x.years(0, 1, n, -1), then[n - 1]);
            due("alone, " + n, x.years(1, 0, n, 0), 8 * n);
            due("alone, " + n, x.years(1, 0, n, -1), 0);
        }
        for (int n : new int[] {LEAST, -1, 0, 10, 11, GREATEST}) {
            due("years " + n, x.years(0, 1, n, 0), BAD);
            due("years " + n, x.years(0, 1, n, -1), BAD);
        }
        for (int who : new int[] {LEAST, -2, 2, 3, GREATEST}) {
            due("who " + who, x.years(0, 1, 1, who), BAD);
        }
        for (int order : new int[] {LEAST, -1, 0, 2, 11, 12, 100, GREATEST}) {
            due("order " + order, x.years(0, order, 1, 0), BAD);
        }
        for (int bad : new int[] {LEAST, -1, 4, GREATEST}) {
            due("giving " + bad, x.years(bad, 0, 1, 0), BAD);
        }
        at("promise 31: seven, each first in turn");
        for (int n = 1; n <= 7; n++) {
            due("of the one of year " + n, x.years(2, 123456, n, n - 1), 8);
            due("of the one of the next year", x.years(2, 123456, n, n % 7), n == 7 ? 8 : 0);
        }
        due("the order behind one year", x.years(2, 123456, 1, -1), 1234560);
        due("the order behind two years", x.years(2, 123456, 2, -1), 2345610);
        due("the order behind seven years", x.years(2, 123456, 7, -1), 6543210);
        at("promise 31: ROUNDS are told, nothing is kept");
        x.rounds(3, 2);
        due("of 1", x.years(3, 1, 9, 1), x.years(3, 1, 9, 1));
        due("of 0", x.years(3, 1, 1, 0), 8);
        due("of 1", x.years(3, 1, 1, 1), 7);
        due("the order", x.years(3, 1, 1, -1), 10);
        due("of 0", x.years(3, 1, 2, 0), 8);
        due("of 1", x.years(3, 1, 2, 1), 22);
        due("no run is made by it", x.has(0, 0), BAD);
    }

    // ---- promises 32, 33

    private static void acts() {
        at("promise 32: an int that wraps");
        TakenInTurns x = with("a1;a");
        due("takes", x.act(WAY, 0, GREATEST), GREATEST);
        due("takes of 1", x.act(TURNS, 0, LEAST), LEAST);
        due("takes of 2", x.act(BACK, 0, GREATEST), LEAST);
        due("takes of 3", x.act(EATING, 0, GREATEST - 2), LEAST);
        due("leaves", x.act(WAY, 1, GREATEST), -2);
        due("leaves", x.act(WAY, 1, LEAST), 0);
        due("leaves", x.act(WAY, 1, 1 << 30), LEAST);
        due("leaves of 5", x.act(TOLD, 1, -5 + (1 << 30)), LEAST);
        due("leaves of 2", x.act(BACK, 1, GREATEST), 3);
        due("likes of 3", x.act(EATING, 2, GREATEST), (GREATEST ^ 3) * 3);
        due("likes of 6", x.act(MEND, 2, GREATEST), LEAST ^ 6);
        due("likes of 4", x.act(TRADE, 2, -1), -1 ^ 4);
        due("tells of 4", x.act(TRADE, 3, LEAST), 8 - (1 ^ 4) ^ 5);
        at("promise 32: ACTS 0 .. 3 of WAYS there are; else 0, and no TRACE");
        int[][] none = {{-1, 0}, {7, 0}, {LEAST, 1}, {GREATEST, 2}, {0, -1}, {0, 4}, {6, LEAST}, {6, GREATEST}, {7, 4}};
        for (int[] pair : none) {
            due("act", x.act(MEND, 3, 0) == 0 ? 0 : x.count(4), 8);
            due("act(" + pair[0] + ", " + pair[1] + ")", x.act(pair[0], pair[1], 9), 0);
            due("count(4)", x.count(4), 0);
            due("trace(0)", x.trace(0), BAD);
        }
        at("promise 33: the bodies as they began");
        int[][] bodies = {{1}, {10, 1}, {11}, {2, 10, 1, 11},
            {20, 1}, {10, 20, 1}, {11}, {2, 10, 20, 1, 11},
            {20, 1}, {30, 10, 20, 1, 20, 1}, {11}, {2, 30, 10, 20, 1, 20, 1, 11},
            {1}, {10, 1}, {40, 11}, {2, 10, 1, 40, 11},
            {1}, {10, 1}, {11}, {50, 2, 10, 1, 11},
            {1}, {60, 10, 1}, {11}, {2, 60, 10, 1, 11},
            {1}, {71, 60, 10, 1, 11}, {70, 11}, {2, 71, 60, 10, 1, 11, 70, 11}};
        for (int i = 0; i < bodies.length; i++) {
            x.act(i / 4, i % 4, 3);
            String call = "way " + i / 4 + ", act " + i % 4;
            due(call + ": count(4)", x.count(4), bodies[i].length);
            for (int k = 0; k < bodies[i].length; k++) {
                due(call + ": trace(" + k + ")", x.trace(k), bodies[i][k]);
            }
            due(call + ": behind the last", x.trace(bodies[i].length), BAD);
        }
        for (int i : new int[] {LEAST, -1, 8, 9, 23, 24, 25, GREATEST}) {
            due("trace(" + i + ")", x.trace(i), BAD);
        }
        at("promise 32: n is the number of the WAY, to 14");
        for (int i = 7; i < 15; i++) {
            due("way", x.way(WAY), i);
            due("takes of " + i, x.act(i, 0, 100), 100 + i);
            due("likes of " + i, x.act(i, 2, 0), i);
        }
    }

    // ---- promises 34 to 40

    private static final int[][] UNDER = {{0}, {0, 1}, {0, 1, 2}, {0, 3}, {0, 4}, {0, 5}, {0, 5, 6}};

    private static void keeps() {
        at("promise 34: SHELVES 0 .. 5, nothing or a WAY there is");
        TakenInTurns x = with("a1;a");
        for (int shelf : new int[] {LEAST, -1, 6, GREATEST}) {
            due("keep(" + shelf + ", 0)", x.keep(shelf, 0), BAD);
            due("keep(" + shelf + ", -1)", x.keep(shelf, -1), BAD);
            due("row(" + shelf + ")", x.row(shelf, 0, 0), BAD);
            due("row of below 0 on " + shelf, x.row(shelf, 0, -1), BAD);
            due("put(" + shelf + ")", x.put(shelf, 0, 0), BAD);
            due("element(" + shelf + ")", x.element(shelf, 0), Long.MIN_VALUE);
            due("shift(" + shelf + ")", x.shift(shelf, 0, 0, 0, 0), BAD);
            due("shift(0, 0, " + shelf + ")", x.shift(0, 0, shelf, 0, 0), BAD);
            due("taken(" + shelf + ")", x.taken(shelf, 0), BAD);
        }
        for (int shelf = 0; shelf < 6; shelf++) {
            due("taken at first", x.taken(shelf, 0), -11);
            due("keep nothing", x.keep(shelf, -1), 1);
            due("taken", x.taken(shelf, 0), -11);
            due("keep", x.keep(shelf, shelf + 1), 1);
            for (int way : new int[] {LEAST, -2, 7, 8, GREATEST}) {
                due("keep(" + shelf + ", " + way + ")", x.keep(shelf, way), BAD);
            }
        }
        for (int shelf = 0; shelf < 6; shelf++) {
            due("taken(" + shelf + ", 0)", x.taken(shelf, 0), shelf + 1);
            due("put in a WAY", x.put(shelf, 0, 0), -12);
            due("element of a WAY", x.element(shelf, 0), Long.MIN_VALUE);
        }
        due("keep nothing", x.keep(3, -1), 1);
        due("taken", x.taken(3, 0), -11);
        due("put", x.put(3, 0, 0), -11);
        due("taken of another one", x.taken(2, 0), 3);
        at("promise 39: KINDS 0 .. 6, itself and those above");
        for (int way = 0; way < 7; way++) {
            due("keep", x.keep(0, way), 1);
            for (int k = 0; k < 7; k++) {
                boolean fine = false;
                for (int above : UNDER[way]) {
                    fine |= above == k;
                }
                due("way " + way + ", taken(0, " + k + ")", x.taken(0, k), fine ? way : -12);
            }
            for (int k : new int[] {LEAST, -1, 7, GREATEST}) {
                due("taken(0, " + k + ")", x.taken(0, k), BAD);
            }
        }
        due("nothing, and no such kind", x.taken(3, 7), BAD);
        due("way 7", x.way(BACK), 7);
        due("keep(0, 7)", x.keep(0, 7), 1);
        due("its kind, not its number", x.taken(0, 1), 2);
        due("a row is no WAY", x.row(0, 0, 1) == 1 ? x.taken(0, 0) : 0, -12);
        due("keep over a row", x.keep(0, 0), 1);
        due("put", x.put(0, 0, 0), -12);
    }

    private static void rows() {
        at("promise 35: sorts 0 .. 4, 0 .. 60 elements, 0 at first");
        TakenInTurns x = with("a1;a");
        for (int sort : new int[] {LEAST, -1, 5, GREATEST}) {
            for (int n : new int[] {-1, 0, 60, 61}) {
                due("row(0, " + sort + ", " + n + ")", x.row(0, sort, n), BAD);
            }
        }
        for (int sort = 0; sort < 5; sort++) {
            due("61", x.row(0, sort, 61), BAD);
            due("many", x.row(0, sort, GREATEST), BAD);
            due("below 0", x.row(0, sort, -1), -14);
            due("below 0", x.row(0, sort, LEAST), -14);
            due("nothing there", x.put(0, 0, 0), sort == 0 ? -11 : -13);
            for (int n : new int[] {60, 59, 1, 0}) {
                due("row of " + n, x.row(0, sort, n), 1);
                due("element -1", x.element(0, -1), Long.MIN_VALUE);
                due("element 0", x.element(0, 0), n > 0 ? 0 : Long.MIN_VALUE);
                due("the last element", x.element(0, n - 1), n > 0 ? 0 : Long.MIN_VALUE);
                due("behind the last", x.element(0, n), Long.MIN_VALUE);
                due("put -1", x.put(0, -1, 1), -13);
                due("put behind the last", x.put(0, n, 1), -13);
                due("put the last", x.put(0, n - 1, 1), n > 0 ? 1 : -13);
                due("the last element", x.element(0, n - 1), n > 0 ? 1 : Long.MIN_VALUE);
                due("element", x.element(0, GREATEST), Long.MIN_VALUE);
                due("element", x.element(0, LEAST), Long.MIN_VALUE);
                due("put", x.put(0, GREATEST, 1), -13);
                due("put", x.put(0, LEAST, 1), -13);
            }
        }
        due("a refused row leaves the one that is there", x.row(0, 2, 3), 1);
        x.put(0, 2, 77);
        due("row(0, 2, -1)", x.row(0, 2, -1), -14);
        due("row(0, 2, 61)", x.row(0, 2, 61), BAD);
        due("element(0, 2)", x.element(0, 2), 77);
        due("a new row of as many", x.row(0, 2, 3), 1);
        due("element(0, 2)", x.element(0, 2), 0);
        lowestBits();
    }

    private static void lowestBits() {
        at("promise 36: the lowest bits");
        TakenInTurns x = with("a1;a");
        long[] values = {0, 1, -1, 127, 128, 255, 256, -128, -129, 32767, 32768, 65535, 65536, -32768, -32769, GREATEST,
            GREATEST + 1L, 0xffffffffL, 0x100000000L, LEAST, LEAST - 1L, Long.MAX_VALUE, Long.MIN_VALUE, 2, 1L << 63};
        for (int sort = 0; sort < 5; sort++) {
            x.row(sort, sort, 1);
            for (long v : values) {
                long want = sort == 0 ? (byte) v : sort == 1 ? (short) v : sort == 2 ? (int) v : sort == 3 ? v : v != 0 ? 1 : 0;
                due("sort " + sort + ", put " + v, x.put(sort, 0, v), 1);
                due("sort " + sort + ", element of " + v, x.element(sort, 0), want);
            }
        }
    }

    private static void numbers(TakenInTurns x, int shelf, int n) {
        x.row(shelf, 2, n);
        for (int i = 0; i < n; i++) {
            x.put(shelf, i, 10 * shelf + i + 1);
        }
    }

    private static void elements(TakenInTurns x, int shelf, long... want) {
        for (int i = 0; i < want.length; i++) {
            due("element(" + shelf + ", " + i + ")", x.element(shelf, i), want[i]);
        }
    }

    private static void shifts() {
        at("promise 38: as they all were before");
        TakenInTurns x = with("a1;a");
        numbers(x, 0, 4);
        due("one place up", x.shift(0, 0, 0, 1, 3), 3);
        elements(x, 0, 1, 1, 2, 3);
        numbers(x, 0, 4);
        due("one place down", x.shift(0, 1, 0, 0, 3), 3);
        elements(x, 0, 2, 3, 4, 4);
        due("in its place", x.shift(0, 0, 0, 0, 4), 4);
        elements(x, 0, 2, 3, 4, 4);
        at("promise 38: from none to all");
        numbers(x, 1, 4);
        due("none", x.shift(0, 0, 1, 0, 0), 0);
        due("none, at the ends", x.shift(0, 4, 1, 4, 0), 0);
        elements(x, 1, 11, 12, 13, 14);
        due("the last one", x.shift(0, 3, 1, 0, 1), 1);
        elements(x, 1, 4, 12, 13, 14);
        due("all", x.shift(1, 0, 0, 0, 4), 4);
        elements(x, 0, 4, 12, 13, 14);
        at("promise 38: -13");
        numbers(x, 0, 4);
        numbers(x, 1, 3);
        int[][] beyond = {{0, 0, 4}, {1, 0, 4}, {2, 0, 3}, {0, 1, 3}, {4, 0, 1}, {3, 0, 2}, {0, 3, 1}, {0, 2, 2}, {5, 0, 0}, {0, 4, 0},
            {-1, 0, 1}, {-1, 0, 0}, {0, -1, 1}, {0, -1, 0}, {0, 0, -1}, {1, 1, -1}, {0, 0, LEAST}, {0, 0, GREATEST},
            {GREATEST, 0, 1}, {0, GREATEST, 1}, {GREATEST, 0, GREATEST}, {1, 1, GREATEST}, {LEAST, 0, LEAST}, {LEAST, LEAST, 0}};
        for (int[] b : beyond) {
            due("shift " + Arrays.toString(b), x.shift(0, b[0], 1, b[1], b[2]), -13);
        }
        elements(x, 0, 1, 2, 3, 4);
        elements(x, 1, 11, 12, 13);
        due("three", x.shift(0, 1, 1, 0, 3), 3);
        elements(x, 1, 2, 3, 4);
        at("promise 38: -11 ahead of -12, -12 ahead of -13, and BAD ahead of all");
        x.keep(2, 0);
        due("nothing and a row", x.shift(3, 9, 0, 9, -9), -11);
        due("a row and nothing", x.shift(0, 9, 3, 9, -9), -11);
        due("nothing and a way", x.shift(3, 0, 2, 0, 0), -11);
        due("a way and nothing", x.shift(2, 0, 3, 0, 0), -11);
        due("nothing and nothing", x.shift(3, 0, 4, 0, 0), -11);
        due("a way and a row", x.shift(2, 9, 0, 9, -9), -12);
        due("a row and a way", x.shift(0, 9, 2, 9, -9), -12);
        due("a way and itself", x.shift(2, 0, 2, 0, 0), -12);
        due("nothing and no shelf", x.shift(3, 0, 6, 0, 0), BAD);
        due("no shelf and nothing", x.shift(-1, 0, 3, 0, 0), BAD);
        for (int sort = 0; sort < 5; sort++) {
            for (int other = 0; other < 5; other++) {
                x.row(3, sort, 2);
                x.row(4, other, 2);
                x.put(3, 1, 1);
                due("sorts " + sort + ", " + other, x.shift(3, 1, 4, 0, 1), sort == other ? 1 : -12);
                due("beyond, sorts " + sort + ", " + other, x.shift(3, 2, 4, 0, 1), sort == other ? -13 : -12);
                due("element", x.element(4, 0), sort == other ? 1 : 0);
            }
        }
        x.row(3, 0, 60);
        x.row(4, 0, 60);
        x.put(3, 59, 5);
        due("sixty", x.shift(3, 0, 4, 0, 60), 60);
        due("element", x.element(4, 59), 5);
        due("sixty-one", x.shift(3, 0, 4, 0, 61), -13);
    }

    private static void counts() {
        at("promise 40: 0 .. 4");
        TakenInTurns x = with("a1;a", "a1;a");
        tell(x, "xyz");
        x.order(0, 0);
        x.act(MEND, 3, 0);
        int[] want = {2, 7, 3, 1, 8};
        for (int what = 0; what < 5; what++) {
            due("count(" + what + ")", x.count(what), want[what]);
        }
        for (int what : new int[] {LEAST, -1, 5, GREATEST}) {
            due("count(" + what + ")", x.count(what), BAD);
        }
    }
}
