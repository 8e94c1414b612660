/** Promise by promise: ordinary calls, the edges that the document names, and wrong calls; the answers by hand. */
public final class PromisesTest {
    private static final int BAD = -1, NOT = -2, FULL = -3, BIG = -4, STATE = -5, VOID = -2000000000;
    private static int wrong = 0;
    private static int promise = 0;
    private static int row = 0;

    private static void due(long got, long want) {
        row++;
        if (got != want) {
            wrong++;
            System.out.println("promise " + promise + ", row " + row + ": answered " + got + ", due is " + want);
        }
    }

    private static void of(int number) {
        promise = number;
        row = 0;
    }

    private static void tell(TakenInTurns x, String text) {
        for (int i = 0; i < text.length(); i += 4) {
            int n = Math.min(4, text.length() - i);
            int v = 0;
            for (int k = 0; k < n; k++) {
                v |= text.charAt(i + k) << 8 * k;
            }
            x.feed(n, v);
        }
    }

    private static int giving(TakenInTurns x, String text) {
        tell(x, text);
        return x.giving();
    }

    private static int instead(TakenInTurns x, int giving, int who, String text) {
        tell(x, text);
        return x.instead(giving, who);
    }

    private static TakenInTurns with(String text) {
        TakenInTurns x = new TakenInTurns();
        due(giving(x, text), 0);
        for (int kind = 0; kind < 7; kind++) {
            due(x.way(kind), kind);
        }
        return x;
    }

    private static void table(TakenInTurns x, int giving, int[][] parts) {
        for (int who = 0; who < parts.length; who++) {
            for (int thing = 0; thing < parts[who].length; thing++) {
                x.told(giving, 10 * who + thing, parts[who][thing]);
            }
        }
    }

    public static void main(String[] args) {
        newObject();
        texts();
        lists();
        runs();
        ways();
        shares();
        comparing();
        tables();
        parting();
        evens();
        acts();
        shelves();
        counts();
        mostOfAll();
        manyCalls();
        System.out.println(wrong == 0 ? "all promises hold" : wrong + " rows are not as due");
        if (wrong != 0) {
            System.exit(1);
        }
    }

    private static void newObject() {
        of(1);
        TakenInTurns x = new TakenInTurns();
        for (int what = 0; what < 5; what++) {
            due(x.count(what), 0);
        }
        due(x.of(0, 0), VOID);
        due(x.kindOf(0), BAD);
        due(x.has(0, 0), BAD);
        due(x.ring(-1), BAD);
        due(x.evenIs(0), BAD);
        due(x.even(), BAD);
        due(x.trace(0), BAD);
        due(x.element(0, 0), Long.MIN_VALUE);
        due(x.put(0, 0, 1), -11);
    }

    private static void texts() {
        of(2);
        TakenInTurns x = new TakenInTurns();
        due(x.feed(0, 97), BAD);
        due(x.feed(5, 97), BAD);
        due(x.feed(-1, 97), BAD);
        due(x.feed(4, 0x613b3161), 4);
        due(x.feed(1, 'a'), 5);
        due(x.giving(), -104);
        due(x.count(2), 0);
        for (int i = 1; i <= 29; i++) {
            due(x.feed(4, 0), 4 * i);
        }
        due(x.feed(3, 0), 119);
        due(x.feed(2, 0), FULL);
        due(x.feed(5, 0), BAD);
        due(x.feed(1, 0), 120);
        due(x.feed(1, 0), FULL);
        due(x.count(2), 120);
        due(x.giving(), -100);
        due(x.count(2), 0);
        due(x.feed(3, 0x01323161), 3);
        due(x.giving(), -102);

        of(3);
        x = new TakenInTurns();
        String[] faulty = {"", "a", "a0", "b1", "a1", "a1b", "a1c1;-", "a1a1;-", "A1;-", "a1;", "a1;*", "a1;*b-", "a1;*a",
            "a1;a>", "a1;a=", "a1;a>a", "a1;a=b", "a1;b", "a1;a;", "a1;a;;a", "a1;-a", "a1;a-", "a1; a", "a1;*a*a", "a1;*a-;*a-",
            "a2;*a-;*a-;-;*aa", "a1;a;a;a;a;a;a;a;a", "a1b1c1d1e1f1g1h1i1;a", "a10;a", "a1;>a", "a1b1;a>=b", "a1b1;ab", "a1;a\n",
            "a1b1;a>b>"};
        int[] places = {0, 1, 1, 0, 2, 3, 2, 2, 0, 3, 4, 4, 5,
            5, 5, 5, 5, 3, 5, 5, 4, 4, 3, 5, 8,
            14, 16, 16, 2, 3, 7, 6, 4, 9};
        for (int i = 0; i < faulty.length; i++) {
            due(giving(x, faulty[i]), -100 - places[i]);
            due(x.count(2), 0);
        }
        due(x.count(0), 0);
        String all = "a1b1c1d1e1f1g1h1;a>b>c>d>e>f>g>h";
        due(giving(x, all + ">"), -133);
        due(giving(x, all + "=a"), -133);
        due(giving(x, all + "i"), -132);
        due(giving(x, all + ">;a"), -133);
        due(giving(x, "a9;-"), 0);
        due(giving(x, "a1b2c3d4e5f6g7h8;h=g>f=e>d=c>b=a;*h-;*ha;-;a;b;c"), 1);
        due(giving(x, "a2;*aa;*aa"), 2);
        due(giving(x, "a1;a"), 3);
        due(giving(x, "a1;a"), 4);
        tell(x, "a1;a");
        due(x.giving(), FULL);
        due(x.count(2), 4);
        due(x.giving(), FULL);
        due(x.count(0), 5);
        due(x.of(1, 0), 7);
        due(x.of(1, 1), 8);

        of(4);
        due(x.of(0, 0), 1);
        due(x.of(0, 1), 1);
        due(x.of(0, 2), 1);
        due(x.of(0, 3), VOID);
        due(x.of(0, -1), VOID);
        due(x.of(0, 9), VOID);
        due(x.of(0, 10), 9);
        due(x.of(0, 11), VOID);
        due(x.of(1, 17), 8);
        due(x.of(1, 18), VOID);
        due(x.of(1, 19), VOID);
        due(x.of(1, 20), -1);
        due(x.of(1, 21), 7);
        due(x.of(1, 22), 7);
        due(x.of(1, 26), -1);
        due(x.of(1, 27), VOID);
        due(x.of(5, 0), VOID);
        due(x.of(-1, 0), VOID);
        due(x.of(Integer.MIN_VALUE, Integer.MAX_VALUE), VOID);

        of(5);
        due(x.rounds(0, 0), BAD);
        due(x.rounds(0, 4), BAD);
        due(x.rounds(-1, 1), BAD);
        due(x.rounds(5, 1), BAD);
        due(x.rounds(0, 3), 1);
        due(x.of(0, 2), 3);
        due(x.of(1, 2), 1);
        due(x.rounds(0, 2), 3);
        due(x.rounds(0, 2), 2);
    }

    private static void lists() {
        of(6);
        TakenInTurns x = with("a1b1c2d1;b=a>c;-;*cd>c=b>a");
        due(x.level(0, 0, 0), 0);
        due(x.level(0, 0, 1), 0);
        due(x.level(0, 0, 2), 1);
        due(x.level(0, 0, 3), -1);
        due(x.level(0, 1, 0), -1);
        due(x.level(0, 2, 3), 0);
        due(x.level(0, 2, 2), 1);
        due(x.level(0, 2, 1), 1);
        due(x.level(0, 2, 0), 2);
        due(x.level(0, 2, 4), VOID);
        due(x.level(0, 2, -1), VOID);
        due(x.level(0, 3, 0), VOID);
        due(x.level(0, -1, 0), VOID);
        due(x.level(1, 0, 0), VOID);

        of(7);
        due(x.listed(0, 0, -1), 3);
        due(x.listed(0, 1, -1), 0);
        due(x.listed(0, 0, 0), 1);
        due(x.listed(0, 0, 1), 0);
        due(x.listed(0, 0, 2), 2);
        due(x.listed(0, 0, 3), BAD);
        due(x.listed(0, 0, -2), BAD);
        due(x.listed(0, 1, 0), BAD);
        due(x.listed(0, 3, -1), BAD);
        due(x.listed(1, 0, -1), BAD);

        of(8);
        due(x.takes(0, 0, 15), 1);
        due(x.takes(0, 0, 13), 0);
        due(x.takes(0, 0, 12), 2);
        due(x.takes(0, 0, 8), NOT);
        due(x.takes(0, 0, 0), NOT);
        due(x.takes(0, 1, 15), NOT);
        due(x.takes(0, 3, 15), BAD);
        due(x.takes(0, -1, 15), BAD);
        due(x.takes(1, 0, 15), BAD);
        due(x.takes(0, 0, 16), BAD);
        due(x.takes(0, 0, -1), BAD);

        of(9);
        x.rounds(0, 2);
        x.told(0, 21, 7);
        tell(x, "*ca>b");
        due(x.instead(0, 3), BAD);
        due(x.instead(1, 0), BAD);
        due(x.instead(-1, 0), BAD);
        due(x.count(2), 5);
        due(x.instead(0, 0), 1);
        due(x.count(2), 0);
        due(x.of(1, 20), 2);
        due(x.of(1, 22), 2);
        due(x.of(0, 20), -1);
        due(x.of(1, 2), 2);
        due(x.told(1, 21, 8), 7);
        due(x.told(0, 21, 7), 7);
        due(x.level(1, 0, 1), 1);
        due(x.level(0, 0, 1), 0);
        due(x.level(1, 2, 1), 1);
        due(instead(x, 1, 1, "*ca"), -101);
        due(x.count(2), 0);
        due(instead(x, 1, 2, "*c-"), 2);
        due(instead(x, 1, 2, ""), -100);
        due(instead(x, 1, 2, "a;b"), -101);
        due(instead(x, 1, 2, "a>"), -102);
        due(instead(x, 1, 2, "e"), -100);
        due(instead(x, 1, 2, "*"), -101);
        due(instead(x, 1, 2, "a>a"), -102);
        due(instead(x, 1, 2, "-"), 3);
        due(x.of(3, 22), -1);
        due(x.listed(3, 2, -1), 0);
        due(instead(x, 0, 1, "*c-"), 4);
        due(instead(x, 0, 1, "zz"), FULL);
        due(x.instead(0, 9), BAD);
        due(x.count(2), 2);
    }

    private static void runs() {
        of(10);
        TakenInTurns x = with("a1b1c1;a>b>c;a>b>c;b>a;-");
        due(x.run(0, 1, 123), 1);
        due(x.run(0, 2, 3210), 1);
        due(x.run(0, 0, 123), BAD);
        due(x.run(0, 3, 123), BAD);
        due(x.run(0, 4, 123), BAD);
        due(x.run(0, 6, 123), BAD);
        due(x.run(0, 7, 123), BAD);
        due(x.run(0, -1, 123), BAD);
        due(x.run(1, 1, 123), BAD);
        due(x.run(0, 1, 12), BAD);
        due(x.run(0, 1, 1123), BAD);
        due(x.run(0, 1, 1234), BAD);
        due(x.run(0, 1, 10123), BAD);
        due(x.run(0, 1, -123), BAD);
        due(x.run(0, 1, Integer.MIN_VALUE), BAD);
        due(x.has(2, 1), 1);

        of(11);
        due(x.has(1, 0), 1);
        due(x.has(0, 2), 1);
        due(x.has(0, 0), 0);
        due(x.has(3, 0), 0);
        due(x.has(4, 0), BAD);
        due(x.has(-1, 0), BAD);
        due(x.has(0, 3), BAD);
        due(x.has(0, -1), BAD);

        of(12);
        due(x.left(0), 0);
        due(x.left(3), BAD);
        due(x.left(-1), BAD);
        due(giving(x, "a9b1;a;b"), 1);
        due(x.left(2), 0);
        due(x.run(1, 1, 10), 1);
        due(x.left(0), 8);
        due(x.left(1), 0);
        due(x.left(2), BAD);
        due(new TakenInTurns().left(0), BAD);

        of(13);
        due(x.run(0, 1, 3120), 1);
        due(x.led(1, 0, 0), 1);
        due(x.led(1, 0, 1), 0);
        due(x.led(2, 0, 0), 2);
        due(x.led(2, 0, 1), 1);
        due(x.led(0, 0, 0), 3);
        due(x.led(0, 0, 2), BAD);
        due(x.led(0, 0, -1), BAD);
        due(x.led(0, 1, 0), BAD);
        due(x.led(0, -1, 0), BAD);
        due(x.led(3, 0, 0), BAD);
        due(x.led(4, 0, 0), BAD);
        due(giving(x, "a5b2;a>b;b>a"), 2);
        x.rounds(2, 3);
        due(x.run(2, 2, 10), 1);
        due(x.led(1, 0, 0), 0);
        due(x.led(0, 0, 0), 1);
        due(x.led(0, 1, 0), 2);
        due(x.led(1, 1, 0), 3);
        due(x.led(1, 2, 0), 4);
        due(x.led(1, 2, 1), 0);
        due(x.led(0, 2, 0), 5);
        due(x.has(0, 0), 3);
        x.rounds(2, 1);
        due(x.has(1, 1), 2);
        due(x.run(2, 1, 10), 1);
        due(x.led(0, 1, 0), BAD);
        x.rounds(2, 2);
        due(x.run(2, 1, 10), 1);
        due(x.led(1, 1, 0), 2);

        of(14);
        due(new TakenInTurns().ring(-1), BAD);
        due(x.ring(-1), NOT);
        due(x.ring(0), BAD);
        due(x.ring(-2), BAD);
        due(x.ring(7), BAD);
    }

    private static void ways() {
        of(15);
        TakenInTurns x = new TakenInTurns();
        due(x.way(-1), BAD);
        due(x.way(7), BAD);
        for (int i = 0; i < 15; i++) {
            due(x.way(i % 7), i);
        }
        due(x.way(0), FULL);
        due(x.way(7), BAD);
        due(x.count(1), 15);

        of(16);
        for (int i = 0; i < 15; i++) {
            due(x.kindOf(i), i % 7);
        }
        due(x.kindOf(15), BAD);
        due(x.kindOf(-1), BAD);
    }

    private static void fraction(TakenInTurns x, int giving, int way, int at, long top, long bottom) {
        due(x.share(giving, way, at, 0), top);
        due(x.share(giving, way, at, 1), bottom);
    }

    private static void shares() {
        of(17);
        TakenInTurns x = with("a1b1;*aa>b;b>a;*ba>b");
        fraction(x, 0, 0, 0, 0, 1);
        fraction(x, 0, 1, 0, 1, 2);
        fraction(x, 0, 1, 1, 1, 6);
        fraction(x, 0, 1, 10, 0, 1);
        fraction(x, 0, 1, 11, 2, 3);
        fraction(x, 0, 2, 11, 2, 3);
        fraction(x, 0, 3, 0, 1, 2);
        fraction(x, 0, 3, 1, 1, 6);
        fraction(x, 0, 3, 11, 2, 3);
        fraction(x, 0, 4, 0, 1, 1);
        fraction(x, 0, 4, 11, 0, 1);
        fraction(x, 0, 4, 21, 1, 1);
        fraction(x, 0, 5, 0, 0, 1);
        x.told(0, 0, 45);
        fraction(x, 0, 5, 0, 3, 4);
        fraction(x, 0, 6, 0, 3, 4);
        due(x.share(0, 7, 0, 0), BAD);
        due(x.share(0, -1, 0, 0), BAD);
        due(x.share(1, 1, 0, 0), BAD);
        due(x.share(0, 1, 2, 0), BAD);
        due(x.share(0, 1, 30, 0), BAD);
        due(x.share(0, 1, -1, 0), BAD);
        due(x.share(0, 1, 0, 2), BAD);
        due(x.share(0, 1, 0, -1), BAD);
        backShares();
        trades();
        mends();

        of(18);
        due(x.stops(0), 2);
        due(x.stops(1), BAD);
        due(x.stops(-1), BAD);
        due(giving(x, "a1b1;-;-"), 1);
        due(x.stops(1), 0);
        due(giving(x, "a9;a"), 2);
        due(x.stops(2), 1);
        x.rounds(2, 3);
        due(x.stops(2), 1);
        fraction(x, 2, 3, 0, 3, 1);
        due(giving(x, "a1b1c1;a>c;b>c"), 3);
        due(x.stops(3), 1);
        x.rounds(3, 2);
        due(x.stops(3), 2);
        fraction(x, 3, 3, 2, 1, 2);
        due(giving(x, "a1b1;a;a>b;a"), 4);
        due(x.stops(4), 2);
        fraction(x, 4, 3, 10, 1, 3);
        fraction(x, 4, 3, 11, 2, 3);
    }

    private static void backShares() {
        TakenInTurns x = with("a1b1c1d1;a>b>c>d;a>b>c>d");
        x.rounds(0, 2);
        fraction(x, 0, 1, 0, 1, 2);
        fraction(x, 0, 1, 3, 1, 2);
        fraction(x, 0, 2, 1, 1, 2);
        fraction(x, 0, 2, 13, 1, 2);
        due(instead(x, 0, 1, "a>c"), 1);
        fraction(x, 1, 1, 11, 0, 1);
        fraction(x, 1, 1, 12, 1, 1);
        fraction(x, 1, 2, 12, 1, 2);
        fraction(x, 1, 2, 1, 1, 1);
        fraction(x, 1, 2, 2, 1, 2);
        fraction(x, 1, 2, 3, 0, 1);
        x.rounds(1, 1);
        fraction(x, 1, 1, 12, 1, 2);
        fraction(x, 1, 1, 1, 1, 2);
    }

    private static void trades() {
        // 0 and 1 trade; 2 wants what 0 holds, then its own; 3 holds nothing, and takes what nobody holds.
        TakenInTurns x = with("a1b1c1d1;*ab>a;*ba>b;*ca>c;a>b>d");
        fraction(x, 0, 4, 1, 1, 1);
        fraction(x, 0, 4, 10, 1, 1);
        fraction(x, 0, 4, 22, 1, 1);
        fraction(x, 0, 4, 33, 1, 1);
        // Of two that hold a thing the least one is pointed to, but one that holds it itself keeps it.
        due(giving(x, "a2b1;*ab>a;*ab>a;*ba>b"), 1);
        fraction(x, 1, 4, 1, 1, 1);
        fraction(x, 1, 4, 10, 1, 1);
        fraction(x, 1, 4, 20, 1, 1);
        due(giving(x, "a2b1;*aa>b;*aa;*ba"), 2);
        fraction(x, 2, 4, 0, 1, 1);
        fraction(x, 2, 4, 10, 1, 1);
        fraction(x, 2, 4, 20, 0, 1);
        fraction(x, 2, 4, 21, 1, 1);
        // What one holds need not be of its list; those with nothing take one thing each, whatever the rounds.
        due(giving(x, "a3b1;-;*b-;b>a;a;a"), 3);
        x.rounds(3, 3);
        fraction(x, 3, 4, 11, 1, 1);
        fraction(x, 3, 4, 20, 1, 1);
        fraction(x, 3, 4, 30, 1, 1);
        fraction(x, 3, 4, 40, 1, 1);
        fraction(x, 3, 4, 0, 0, 1);
        // Who points to nobody is done at once, and the others trade.
        due(giving(x, "a1b1c1;*a-;*bc>b;*ca>b"), 4);
        fraction(x, 4, 4, 0, 1, 1);
        fraction(x, 4, 4, 12, 1, 1);
        fraction(x, 4, 4, 21, 1, 1);
    }

    private static void mends() {
        TakenInTurns x = with("a1b1c2;c>a;a>b>c;b>a>c");
        table(x, 0, new int[][] {{30, 60, 50}, {60, 60, 60}, {40, 10, 0}});
        // 0: b goes, a 30 to 10. 1: c and b go. Then of a 10 + 60 + 40 are 50 too much: 2 gives 40, 1 gives 10.
        fraction(x, 0, 6, 0, 1, 6);
        fraction(x, 0, 6, 1, 0, 1);
        fraction(x, 0, 6, 2, 5, 6);
        fraction(x, 0, 6, 10, 5, 6);
        fraction(x, 0, 6, 11, 0, 1);
        fraction(x, 0, 6, 12, 0, 1);
        fraction(x, 0, 6, 20, 0, 1);
        fraction(x, 0, 6, 21, 1, 6);
        fraction(x, 0, 5, 11, 1, 1);
        due(giving(x, "a1b1;a>b;a"), 1);
        table(x, 1, new int[][] {{60, 1}, {1, 0}});
        fraction(x, 1, 6, 0, 1, 1);
        fraction(x, 1, 6, 1, 0, 1);
        fraction(x, 1, 6, 10, 0, 1);
        x.rounds(0, 2);
        fraction(x, 0, 6, 0, 1, 2);
        fraction(x, 0, 6, 10, 1, 2);
        fraction(x, 0, 6, 11, 1, 1);
        fraction(x, 0, 6, 12, 0, 1);
        fraction(x, 0, 6, 21, 0, 1);
        due(x.told(0, 0, 0), 30);
        fraction(x, 0, 6, 10, 1, 1);
        due(x.rounds(0, 1), 2);
        fraction(x, 0, 6, 11, 0, 1);
    }

    private static void comparing() {
        of(19);
        TakenInTurns x = with("a1b1c1;a>b>c;a>b>c;b=c");
        due(x.rather(0, 0, 1, 0), 1);
        due(x.rather(0, 0, 0, 1), -1);
        due(x.rather(0, 0, 1, 1), 0);
        table(x, 0, new int[][] {{60, 0, 0}, {0, 30, 0}, {60, 0, 59}});
        due(x.rather(0, 0, 5, 1), 1);
        due(x.rather(0, 1, 5, 1), -1);
        due(x.rather(0, 1, 1, 5), 1);
        due(x.rather(0, 2, 5, 1), -1);
        x.told(0, 21, 1);
        due(x.rather(0, 2, 5, 1), 0);
        x.told(0, 10, 35);
        due(x.rather(0, 1, 5, 1), 1);
        x.told(0, 11, 0);
        due(x.rather(0, 1, 5, 1), 2);
        due(x.rather(0, 3, 5, 1), VOID);
        due(x.rather(0, -1, 5, 1), VOID);
        due(x.rather(0, 0, 7, 1), VOID);
        due(x.rather(0, 0, 1, 7), VOID);
        due(x.rather(0, 0, -1, 1), VOID);
        due(x.rather(1, 0, 1, 1), VOID);
        due(giving(x, "a1;-"), 1);
        due(x.rather(1, 0, 1, 0), 0);

        of(20);
        table(x, 0, new int[][] {{60, 0, 0}, {0, 60, 0}, {60, 0, 60}});
        due(x.envy(0, 5), 2);
        x.told(0, 20, 0);
        due(x.envy(0, 5), 10);
        x.told(0, 10, 60);
        due(x.envy(0, 5), 1);
        x.told(0, 1, 60);
        due(x.envy(0, 5), NOT);
        x.told(0, 21, 0);
        x.told(0, 22, 0);
        due(x.envy(0, 5), 20);
        x.told(0, 1, 0);
        x.told(0, 11, 0);
        due(x.envy(0, 5), NOT);
        due(x.envy(0, 1), NOT);
        due(x.envy(0, 0), NOT);
        due(x.envy(0, 7), BAD);
        due(x.envy(0, -1), BAD);
        due(x.envy(2, 1), BAD);

        of(21);
        x = with("a1b1c1d1;a>b>c>d;b>c>a>d");
        x.rounds(0, 2);
        due(x.wrongly(0, 0, 1, 2134), 1);
        due(x.wrongly(0, 0, 1, 1234), 0);
        due(x.wrongly(0, 0, 1, 4321), -1);
        due(x.wrongly(0, 0, 2, 2134), VOID);
        due(x.wrongly(0, 0, 0, 2134), VOID);
        due(x.wrongly(0, 0, 4, 2134), VOID);
        due(x.wrongly(0, 0, 7, 2134), VOID);
        due(x.wrongly(0, 2, 1, 2134), VOID);
        due(x.wrongly(1, 0, 1, 2134), VOID);
        due(x.wrongly(0, 0, 1, 213), VOID);
        due(x.wrongly(0, 0, 1, 22134), VOID);
        due(x.wrongly(0, 0, 1, 2133), VOID);
        due(x.wrongly(0, 0, 1, 1032), VOID);
        due(x.wrongly(0, 0, 1, 2135), VOID);
        due(x.wrongly(0, 0, 1, -2134), VOID);
        due(instead(x, 0, 0, "-"), 1);
        due(x.wrongly(1, 0, 1, 0), 0);
        due(x.wrongly(1, 0, 1, 1), VOID);

        of(22);
        due(x.gains(0, 0, 1), 2134);
        due(x.gains(0, 1, 1), NOT);
        due(x.gains(0, 0, 2), BAD);
        due(x.gains(0, 0, 5), BAD);
        due(x.gains(0, 2, 1), BAD);
        due(x.gains(2, 0, 1), BAD);
        due(x.gains(1, 0, 1), NOT);
        x.rounds(0, 1);
        due(x.gains(0, 0, 1), NOT);
        due(giving(x, "a1b1c1d1e1f1;a>b>c>d>e>f;a>b>c>d>e"), 2);
        due(x.gains(2, 0, 1), BIG);
        due(x.gains(2, 0, 3), BIG);
        due(x.gains(2, 1, 3), NOT);
        due(x.wrongly(2, 0, 3, 123456), 0);
    }

    private static void tables() {
        of(23);
        TakenInTurns x = with("a1b2;a>b;b");
        due(x.told(0, 0, 60), 0);
        due(x.told(0, 0, 1), 60);
        due(x.told(0, 11, 2), 0);
        due(x.told(0, 11, 0), 2);
        due(x.told(0, 0, 61), BAD);
        due(x.told(0, 0, -1), BAD);
        due(x.told(0, 2, 1), BAD);
        due(x.told(0, 20, 1), BAD);
        due(x.told(0, -1, 1), BAD);
        due(x.told(1, 0, 1), BAD);
        due(x.told(0, 0, 0), 1);

        of(24);
        due(x.table(0, 0, 0), 0);
        due(x.row(0, 0, 3), 1);
        x.put(0, 0, 10);
        x.put(0, 1, 60);
        x.put(0, 2, 20);
        x.told(0, 11, 9);
        due(x.table(0, 0, 0), 3);
        due(x.told(0, 0, 10), 10);
        due(x.told(0, 1, 60), 60);
        due(x.told(0, 10, 20), 20);
        due(x.told(0, 11, 9), 9);
        due(x.table(0, 0, 2), 1);
        due(x.told(0, 0, 20), 20);
        due(x.told(0, 1, 60), 60);
        due(x.table(0, 0, 3), 0);
        due(x.table(0, 0, -1), 0);
        due(x.table(0, 0, Integer.MAX_VALUE), 0);
        due(x.table(0, 0, Integer.MIN_VALUE), 0);
        x.put(0, 1, 61);
        due(x.table(0, 0, 0), 1);
        x.put(0, 1, -1);
        due(x.table(0, 0, 0), 1);
        due(x.told(0, 1, 60), 60);
        due(x.row(1, 0, 9), 1);
        due(x.table(0, 1, 1), 4);
        due(x.told(0, 11, 0), 0);
        due(x.row(1, 2, 9), 1);
        due(x.table(0, 1, 0), -12);
        due(x.keep(1, 0), 1);
        due(x.table(0, 1, 0), -12);
        due(x.keep(1, -1), 1);
        due(x.table(0, 1, 0), 0);
        due(x.table(0, 6, 0), BAD);
        due(x.table(0, -1, 0), BAD);
        due(x.table(1, 0, 0), BAD);

        of(25);
        x = with("a1b1;a>b;a>b;b");
        due(x.bars(0), NOT);
        table(x, 0, new int[][] {{30, 30}, {30, 30}, {0, 0}});
        due(x.bars(0), NOT);
        x.told(0, 21, 1);
        due(x.bars(0), 11);
        x.told(0, 0, 29);
        x.told(0, 10, 31);
        due(x.bars(0), 1);
        x.told(0, 20, 1);
        due(x.bars(0), 1);
        x.told(0, 10, 30);
        due(x.bars(0), 2);
        x.told(0, 20, 0);
        due(x.bars(0), 11);
        x.told(0, 21, 0);
        due(x.bars(0), NOT);
        x.told(0, 10, 60);
        x.told(0, 11, 60);
        due(x.bars(0), 1);
        x.rounds(0, 2);
        due(x.bars(0), 10);
        due(x.bars(1), BAD);
        due(x.bars(-1), BAD);
    }

    private static void parting() {
        of(26);
        TakenInTurns x = with("a1b1c1;a>b>c;a>b>c;a>b>c");
        due(x.parted(0, -1, 0), STATE);
        table(x, 0, new int[][] {{20, 20, 20}, {20, 20, 20}, {20, 20, 20}});
        due(x.parted(0, -1, 0), 3);
        due(x.parted(0, 0, 0), 12);
        due(x.parted(0, 1, 0), 120);
        due(x.parted(0, 2, 0), 201);
        due(x.parted(0, 2, 1), 20);
        due(x.parted(0, 3, 0), BAD);
        due(x.parted(0, 3, 1), BAD);
        due(x.parted(0, -2, 0), BAD);
        due(x.parted(0, 0, 2), BAD);
        due(x.parted(0, 0, -1), BAD);
        due(x.parted(1, 0, 0), BAD);
        // Told anew, it is parted anew.
        table(x, 0, new int[][] {{60, 0, 0}, {0, 45, 15}, {0, 15, 45}});
        due(x.parted(0, -1, 0), 2);
        due(x.parted(0, 0, 0), 12);
        due(x.parted(0, 0, 1), 45);
        due(x.parted(0, 1, 0), 21);
        due(x.parted(0, 1, 1), 15);
        x.rounds(0, 2);
        due(x.parted(0, -1, 0), STATE);
        x.rounds(0, 1);
        due(x.parted(0, -1, 0), 2);
        x.told(0, 0, 59);
        due(x.parted(0, -1, 0), STATE);
        due(x.parted(0, 9, 0), STATE);
        due(x.parted(0, -2, 0), BAD);
        // Two of a: of the 30 parts of b and the 30 of c nothing hinders; of a it is 60 of 120.
        due(giving(x, "a2b1c1;a>b;a>c"), 1);
        table(x, 1, new int[][] {{30, 30, 0}, {30, 0, 30}});
        due(x.parted(1, -1, 0), 2);
        due(x.parted(1, 0, 0), 0);
        due(x.parted(1, 0, 1), 30);
        due(x.parted(1, 1, 0), 12);
        due(x.parted(1, 1, 1), 30);
        // With all 60 parts of a to be given, a must come in each whole giving.
        due(giving(x, "a1b2c2;b>a;b>a"), 2);
        table(x, 2, new int[][] {{20, 40, 0}, {40, 20, 0}});
        due(x.parted(2, -1, 0), 2);
        due(x.parted(2, 0, 0), 1);
        due(x.parted(2, 0, 1), 20);
        due(x.parted(2, 1, 0), 10);
        due(x.parted(2, 1, 1), 40);
    }

    private static void evens() {
        of(27);
        TakenInTurns x = with("a1b1c1;a>b>c;a>b>c;a>b>c");
        due(giving(x, "a1b1;a>b;a>b"), 1);
        due(x.order(0, 12), 1);
        due(x.order(0, 12), BAD);
        due(x.order(1, 10), BAD);
        due(x.order(0, 11), BAD);
        due(x.order(2, 12), BAD);
        due(x.order(0, 120), 2);
        due(x.order(0, 201), 3);
        due(x.order(0, 21), 4);
        due(x.order(0, 102), 5);
        due(x.order(0, 210), 6);
        due(x.order(0, 210), BAD);
        due(x.order(0, 12345), BAD);
        due(x.count(3), 6);

        of(28);
        // Points are 8, 7, 6: 120 with 021 (bits 1 and 3) is even, and so are 201 with 102, and 012 with 210.
        due(x.even(), 10);
        due(x.count(3), 0);
        due(x.even(), BAD);
        due(x.order(1, 1), 1);
        due(x.order(1, 10), 2);
        due(x.order(0, 12), BAD);
        due(x.even(), 3);
        due(x.evenIs(0), 15);
        due(x.evenIs(1), 2);
        due(x.order(0, 12), 1);
        due(x.even(), 1);

        of(29);
        due(x.evenIs(0), 6);
        due(x.evenIs(1), 1);
        due(x.evenIs(2), BAD);
        due(x.evenIs(-1), BAD);
        for (int i = 0; i < 6; i++) {
            x.order(0, new int[] {12, 21, 102, 120, 201, 210}[i]);
        }
        due(x.order(0, 122), BAD);
        due(x.even(), 10);
        due(x.evenIs(0), 7);
        due(giving(x, "a1;a;a;-"), 2);
        x.order(2, 12);
        x.order(2, 102);
        due(x.even(), 1);
        due(x.evenIs(0), 0);
        due(x.evenIs(1), 1);
        due(giving(x, "a1b1c1d1e1f1g1;a;b;c;d;e;f;g"), 3);
        due(x.order(3, 123456), 1);
        for (int i = 0; i < 5; i++) {
            due(x.order(3, new int[] {123465, 123546, 123564, 123645, 123654}[i]), i + 2);
        }
        due(x.order(3, 124356), FULL);
        due(x.order(3, 123456), BAD);
        due(x.even(), 1);
        due(x.evenIs(0), 8);

        of(30);
        due(x.swap(0, 0), 12);
        due(x.swap(0, 1), 2);
        due(x.swap(1, 1), 1);
        x.rounds(1, 2);
        due(x.swap(1, 0), 1);
        due(x.swap(1, 1), 1);
        due(giving(x, "a1b1c1d1;a>b>c>d;b>a>c>d"), 4);
        x.rounds(4, 2);
        due(x.swap(4, 0), 1);
        due(x.swap(4, 1), 1);
        due(x.swap(4, 2), BAD);
        due(x.swap(5, 0), BAD);
        due(x.swap(-1, 0), BAD);

        of(31);
        due(x.years(0, 12, 1, 0), 8);
        due(x.years(0, 12, 1, 2), 6);
        due(x.years(0, 12, 1, -1), 210);
        due(x.years(0, 12, 2, -1), 210);
        due(x.years(0, 12, 2, 0), 14);
        due(x.years(0, 12, 3, 0), 20);
        due(x.years(0, 12, 3, 2), 22);
        due(x.years(0, 12, 3, -1), 12);
        due(x.years(0, 12, 0, 0), BAD);
        due(x.years(0, 12, 10, 0), BAD);
        due(x.years(0, 11, 1, 0), BAD);
        due(x.years(0, 12, 1, 3), BAD);
        due(x.years(0, 12, 1, -2), BAD);
        due(x.years(5, 12, 1, 0), BAD);
    }

    private static void acted(TakenInTurns x, int answer, int want, int... bodies) {
        due(answer, want);
        due(x.count(4), bodies.length);
        for (int i = 0; i < bodies.length; i++) {
            due(x.trace(i), bodies[i]);
        }
        due(x.trace(bodies.length), BAD);
        due(x.trace(-1), BAD);
    }

    private static void acts() {
        of(32);
        TakenInTurns x = with("a1;a");
        acted(x, x.act(0, 0, 5), 5, 1);
        acted(x, x.act(1, 0, 5), 5, 20, 1);
        acted(x, x.act(2, 0, 5), 6, 20, 1);
        acted(x, x.act(3, 0, 5), 8, 1);
        acted(x, x.act(6, 0, Integer.MAX_VALUE), Integer.MIN_VALUE + 5, 1);
        acted(x, x.act(0, 1, 5), 10, 10, 1);
        acted(x, x.act(1, 1, 5), 10, 10, 20, 1);
        acted(x, x.act(2, 1, 5), 15, 30, 10, 20, 1, 20, 1);
        acted(x, x.act(5, 1, 5), -20, 60, 10, 1);
        acted(x, x.act(6, 1, 5), -25, 71, 60, 10, 1, 11);
        acted(x, x.act(4, 2, 5), 1, 11);
        acted(x, x.act(3, 2, 5), 18, 40, 11);
        acted(x, x.act(6, 2, 5), 0, 70, 11);
        acted(x, x.act(0, 3, 5), 9, 2, 10, 1, 11);
        acted(x, x.act(2, 3, 5), 12, 2, 30, 10, 20, 1, 20, 1, 11);
        acted(x, x.act(3, 3, 5), 10, 2, 10, 1, 40, 11);
        acted(x, x.act(4, 3, 5), 8, 50, 2, 10, 1, 11);
        acted(x, x.act(5, 3, 5), -24, 2, 60, 10, 1, 11);
        acted(x, x.act(6, 3, 5), -29, 2, 71, 60, 10, 1, 11, 70, 11);
        due(x.way(6), 7);
        acted(x, x.act(7, 1, 5), -26, 71, 60, 10, 1, 11);

        of(33);
        acted(x, x.act(8, 0, 5), 0);
        x.act(0, 0, 5);
        acted(x, x.act(-1, 0, 5), 0);
        x.act(0, 0, 5);
        acted(x, x.act(0, 4, 5), 0);
        x.act(0, 0, 5);
        acted(x, x.act(0, -1, 5), 0);
    }

    private static void shelves() {
        of(34);
        TakenInTurns x = with("a1;a");
        due(x.keep(0, 7), BAD);
        due(x.keep(0, -2), BAD);
        due(x.keep(6, 0), BAD);
        due(x.keep(-1, 0), BAD);
        due(x.keep(5, 6), 1);
        due(x.taken(5, 5), 6);
        due(x.keep(5, -1), 1);
        due(x.taken(5, 5), -11);

        of(35);
        due(x.row(0, 5, 1), BAD);
        due(x.row(0, -1, 1), BAD);
        due(x.row(0, 0, 61), BAD);
        due(x.row(6, 0, 1), BAD);
        due(x.row(-1, 0, 1), BAD);
        due(x.row(0, 0, -1), -14);
        due(x.row(0, 5, -1), BAD);
        due(x.row(6, 0, -1), BAD);
        due(x.element(0, 0), Long.MIN_VALUE);
        due(x.put(0, 0, 0), -11);
        due(x.row(0, 0, 0), 1);
        due(x.put(0, 0, 0), -13);
        due(x.row(0, 0, 60), 1);
        due(x.put(0, 59, 1), 1);
        due(x.put(0, 60, 1), -13);
        due(x.row(0, 0, 60), 1);
        due(x.element(0, 59), 0);

        of(36);
        long v = 0x123456789abcdef0L;
        long[] kept = {(byte) 0xf0, (short) 0xdef0, 0x9abcdef0, v, 1};
        for (int sort = 0; sort < 5; sort++) {
            due(x.row(sort, sort, 2), 1);
            due(x.put(sort, 1, v), 1);
            due(x.element(sort, 1), kept[sort]);
            due(x.element(sort, 0), 0);
            due(x.put(sort, 2, v), -13);
            due(x.put(sort, -1, v), -13);
        }
        due(x.put(4, 0, 256), 1);
        due(x.element(4, 0), 1);
        due(x.put(4, 0, 0), 1);
        due(x.element(4, 0), 0);
        due(x.put(5, 0, 0), -11);
        due(x.put(5, -1, 0), -11);
        due(x.keep(5, 0), 1);
        due(x.put(5, -1, 0), -12);
        due(x.put(6, 0, 0), BAD);
        due(x.put(-1, 0, 0), BAD);

        of(37);
        due(x.element(5, 0), Long.MIN_VALUE);
        due(x.element(6, 0), Long.MIN_VALUE);
        due(x.element(-1, 0), Long.MIN_VALUE);
        due(x.element(0, 2), Long.MIN_VALUE);
        due(x.element(0, -1), Long.MIN_VALUE);
        due(x.put(3, 0, Long.MAX_VALUE), 1);
        due(x.element(3, 0), Long.MAX_VALUE);

        of(38);
        due(x.row(0, 2, 5), 1);
        due(x.row(1, 2, 4), 1);
        for (int i = 0; i < 5; i++) {
            x.put(0, i, i + 1);
        }
        due(x.shift(0, 0, 0, 1, 4), 4);
        int[] up = {1, 1, 2, 3, 4};
        for (int i = 0; i < 5; i++) {
            due(x.element(0, i), up[i]);
        }
        due(x.shift(0, 2, 0, 0, 3), 3);
        int[] down = {2, 3, 4, 3, 4};
        for (int i = 0; i < 5; i++) {
            due(x.element(0, i), down[i]);
        }
        due(x.shift(0, 3, 1, 0, 2), 2);
        due(x.element(1, 0), 3);
        due(x.element(1, 1), 4);
        due(x.element(1, 2), 0);
        due(x.shift(0, 0, 1, 0, 5), -13);
        due(x.shift(1, 0, 0, 2, 4), -13);
        due(x.shift(0, 5, 1, 4, 0), 0);
        due(x.shift(0, 6, 1, 0, 0), -13);
        due(x.shift(0, 0, 1, 0, -1), -13);
        due(x.shift(0, -1, 1, 0, 1), -13);
        due(x.shift(0, 0, 1, -1, 1), -13);
        due(x.shift(0, 1, 1, 1, Integer.MAX_VALUE), -13);
        due(x.shift(0, Integer.MAX_VALUE, 1, 1, Integer.MAX_VALUE), -13);
        due(x.shift(0, 0, 3, 0, 1), -12);
        due(x.shift(0, 0, 5, 0, 1), -12);
        due(x.shift(5, -1, 5, 0, 1), -12);
        due(x.keep(4, -1), 1);
        due(x.shift(4, 0, 5, 0, 1), -11);
        due(x.shift(0, -1, 4, 0, 1), -11);
        due(x.shift(6, 0, 4, 0, 1), BAD);
        due(x.shift(0, 0, -1, 0, 1), BAD);

        of(39);
        boolean[][] under = {
            {true, false, false, false, false, false, false}, {true, true, false, false, false, false, false},
            {true, true, true, false, false, false, false}, {true, false, false, true, false, false, false},
            {true, false, false, false, true, false, false}, {true, false, false, false, false, true, false},
            {true, false, false, false, false, true, true}};
        for (int kind = 0; kind < 7; kind++) {
            due(x.keep(2, kind), 1);
            for (int k = 0; k < 7; k++) {
                due(x.taken(2, k), under[kind][k] ? kind : -12);
            }
        }
        due(x.taken(0, 0), -12);
        due(x.taken(4, 0), -11);
        due(x.taken(2, 7), BAD);
        due(x.taken(2, -1), BAD);
        due(x.taken(6, 0), BAD);
        due(x.taken(-1, 0), BAD);
    }

    private static void counts() {
        of(40);
        TakenInTurns x = with("a1;a");
        due(x.count(0), 1);
        due(x.count(1), 7);
        tell(x, "xyz");
        due(x.count(2), 3);
        x.order(0, 0);
        due(x.count(3), 1);
        x.act(2, 3, 1);
        due(x.count(4), 8);
        due(x.count(5), BAD);
        due(x.count(-1), BAD);
    }

    /** As many people and things as there may be. */
    private static void mostOfAll() {
        of(41);
        String same = ";a>b>c>d>e>f>g";
        String text = "a1b1c1d1e1f1g1h1" + same + same + same + same + same + same + same;
        for (int who = 0; who < 7; who++) {
            // One for each of them, since an object is asked for no more than 512 calls.
            oneOfSeven(with(text), who);
        }
        TakenInTurns x = with(text);
        due(x.of(0, 26), -1);
        due(x.run(0, 1, 6543210), 1);
        for (int who = 0; who < 7; who++) {
            due(x.told(0, 11 * who, 60), 0);
        }
        due(x.ring(-1), NOT);
        due(x.left(7), 1);
        due(x.stops(0), 7);
        due(x.envy(0, 4), 10);
        due(x.envy(0, 1), NOT);
        due(x.bars(0), NOT);
        due(x.parted(0, -1, 0), 1);
        due(x.parted(0, 0, 0), 123456);
        due(x.parted(0, 0, 1), 60);
        x.row(0, 0, 60);
        x.put(0, 55, 4);
        due(x.table(0, 0, 0), 56);
        due(x.bars(0), 6);
        due(x.told(0, 67, 0), 4);
        due(x.bars(0), NOT);
        due(x.parted(0, -1, 0), STATE);
        due(x.order(0, 123456), 1);
        due(x.even(), 1);
        due(x.evenIs(0), 2);
        due(x.years(0, 123456, 1, -1), 6543210);
        due(x.years(0, 123456, 2, -1), 6543210);
        due(x.years(0, 123456, 2, 6), 10);
        x.rounds(0, 2);
        due(x.swap(0, 0), 123456);
        due(x.swap(0, 1), 6);
        due(x.stops(0), 7);
        due(instead(x, 0, 6, "*hh>g>f>e>d>c>b>a"), 1);
        due(x.of(1, 26), 7);
        due(x.level(1, 6, 0), 7);
        due(x.share(1, 1, 67, 0), 1);
        due(x.run(1, 2, 123456), 1);
        due(x.led(6, 1, 0), 7);
        due(x.led(6, 1, 1), 6);
        due(x.has(5, 5), 1);
    }

    private static void oneOfSeven(TakenInTurns x, int who) {
        due(x.run(0, 1, 6543210), 1);
        for (int thing = 0; thing < 8; thing++) {
            due(x.has(who, thing), thing == 6 - who ? 1 : 0);
            fraction(x, 0, 1, 10 * who + thing, thing < 7 ? 1 : 0, thing < 7 ? 7 : 1);
            fraction(x, 0, 3, 10 * who + thing, thing < 7 ? 1 : 0, thing < 7 ? 7 : 1);
            fraction(x, 0, 4, 10 * who + thing, thing == who ? 1 : 0, 1);
            due(x.told(0, 10 * who + thing, thing == who ? 60 : 0), 0);
            fraction(x, 0, 6, 10 * who + thing, thing == who ? 1 : 0, 1);
        }
        due(x.led(who, 0, 0), 6 - who);
        due(x.level(0, who, 7), -1);
        due(x.level(0, who, 6), 6);
        due(x.rather(0, who, 1, 3), 0);
        due(x.wrongly(0, who, 3, 1234567), 0);
        due(x.wrongly(0, who, 3, 7654321), -1);
        due(x.gains(0, who, 3), BIG);
    }

    /** The dearest calls, as often as an object is asked: they must end soon. */
    private static void manyCalls() {
        of(0);
        TakenInTurns x = with("a3b3c3d3e3;a>b>c>d>e;b>a>c>e>d;c>b>a>d>e;d>e>a>b>c;e>a>b>c>d;a>c>e>b>d;b>d>a>c>e");
        x.rounds(0, 3);
        int first = x.gains(0, 0, 1);
        for (int i = 0; i < 12; i++) {
            due(x.gains(0, 0, 1), first);
        }
        int best = x.swap(0, 0);
        for (int i = 0; i < 100; i++) {
            x.rounds(0, 2);
            x.rounds(0, 3);
            due(x.swap(0, 0), best);
        }
    }
}
