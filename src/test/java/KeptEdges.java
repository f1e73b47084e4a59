/** The edges of what an object keeps beside its net: observations, the seed, slots; and of count(). */
final class KeptEdges extends Edge {
    private static final long FACTOR = 6364136223846793005L, SUMMAND = 1442695040888963407L;

    private KeptEdges() {
    }

    static void run() {
        seenRange();
        seenFull();
        seenRemoved();
        agreeingAll();
        agreeingSorts();
        agreeingNow();
        agreeingIgnored();
        seeds();
        drawnOverflow();
        drawnHighBits();
        drawnSteps();
        drawnWithout();
        slotRange();
        slotsEmptyAndFull();
        slotsAfterNet();
        slotsHoldAll();
        countRange();
        countEnds();
    }

    private static void seenRange() {
        edge("promise 22", "OUTSIDE if what or was is out of range", "N041p99");
        for (int wrong : new int[] {-1, 256, LEAST, MOST}) {
            due("what " + wrong, x.see(0, wrong, 0), OUTSIDE);
            due("was " + wrong, x.see(0, 0, wrong), OUTSIDE);
        }
        due("what 3", x.see(0, 3, 1), OUTSIDE);
        due("was 2", x.see(0, 2, 2), OUTSIDE);
        due("no proxy", x.see(1, 3, 2), UNKNOWN);
        due("none was added", x.count(12), 0);
        due("what 0, was 0", x.see(0, 0, 0), 1);
        due("what 2, was 1", x.see(0, 2, 1), 2);
    }

    private static void seenFull() {
        edge("promise 22", "FULL if there are 6 observations", "N041p99s000");
        for (int i = 1; i <= 6; i++) {
            due("observation " + i, x.see(0, 0, 1), i);
        }
        due("the seventh", x.see(0, 0, 1), FULL);
        due("the seventh, another", x.see(0, 0, 0), FULL);
        due("observations", x.count(12), 6);
        due("it was not added", x.which(), 1);
        due("OUTSIDE comes before FULL", x.see(0, 3, 0), OUTSIDE);
        due("OUTSIDE comes before FULL", x.see(0, 0, 2), OUTSIDE);
        due("UNKNOWN comes before FULL", x.see(1, 0, 0), UNKNOWN);
        edge("promise 24", "the pages that agree with all observations: the sixth is one of them", "N041p99s000");
        for (int i = 0; i < 5; i++) {
            x.see(0, 0, 1);
        }
        x.see(0, 0, 0);
        due("which", x.which(), 0);
    }

    private static void seenRemoved() {
        edge("promise 23", "Returns how many there were", "N041p99s000");
        due("none", x.unsee(), 0);
        x.see(0, 0, 1);
        due("one", x.unsee(), 1);
        due("none again", x.unsee(), 0);
        for (int i = 0; i < 7; i++) {
            x.see(0, 0, 1);
        }
        due("six", x.unsee(), 6);
        due("observations", x.count(12), 0);
        due("which", x.which(), -1);
        due("the first again", x.see(0, 0, 0), 1);
        due("which", x.which(), -2);
    }

    private static void agreeingAll() {
        edge("promise 24", "the pages, as a bit set (page 31 is the sign bit)", "N161h10p99p99s031s000");
        due("all pages", x.which(), -1);
        x.see(0, 0, 1);
        due("pages 0 and 31", x.which(), LEAST | 1);
        x.see(0, 0, 0);
        due("no page", x.which(), 0);
        x.unsee();
        x.see(1, 0, 0);
        due("not on an empty shelf", x.which(), -1);
        x.unsee();
        x.see(1, 0, 1);
        due("on an empty shelf", x.which(), 0);
    }

    private static void agreeingSorts() {
        edge("promise 22", "0: the page is on its shelf; 1: its summary contains the page; 2: its filter contains the page",
                "N081h10p99s000");
        x.drop(0, 0);
        x.ask(0, 1);
        int[] due = {2, 0x01010101, 0x02020202};
        for (int what = 0; what <= 2; what++) {
            x.see(0, what, 1);
            due("what " + what + " is so", x.which(), due[what]);
            x.unsee();
            x.see(0, what, 0);
            due("what " + what + " is not so", x.which(), ~due[what]);
            x.unsee();
        }
    }

    private static void agreeingNow() {
        edge("promise 24", "as things are now (not as they were when the observations were added)", "N081h10h20p99s000");
        x.see(0, 0, 1);
        x.drop(0, 0);
        due("the page went", x.which(), 0);
        x.undo();
        due("undone", x.which(), 1);
        x.unsee();
        x.see(0, 1, 1);
        due("by the present family", x.which(), 0x01010101);
        x.use(1);
        // From page 19 on 2 * p is less 37, so that it is odd.
        due("by the other family", x.which(), 1 | 1 << 4 | 1 << 8 | 1 << 12 | 1 << 16);
    }

    private static void agreeingIgnored() {
        edge("promise 24", "Observations of proxies that do not exist any more are ignored", "N041p99p99s000s101");
        x.see(0, 0, 1);
        x.see(1, 0, 1);
        due("both", x.which(), 0);
        newNet("N041p99s000");
        due("proxy 1 does not exist", x.which(), 1);
        due("both are kept", x.count(12), 2);
        newNet("N041");
        due("no proxy exists", x.which(), -1);
        newNet("N041p99p99s031s131");
        due("both exist again", x.which(), LEAST);
    }

    private static void newNet(String text) {
        x.wipe();
        Check.write(x, text);
        x.net();
    }

    private static void seeds() {
        edge("promise 27", "Returns the seed before", null);
        due("at first", x.seed(Long.MAX_VALUE), 0);
        due("the greatest", x.seed(Long.MIN_VALUE), Long.MAX_VALUE);
        due("the least", x.seed(-1), Long.MIN_VALUE);
        due("-1", x.seed(1L << 32), -1);
        due("beyond an int", x.seed(0), 1L << 32);
        due("0", x.seed(0), 0);
    }

    private static void drawnOverflow() {
        edge("promise 28", "x * 6364136223846793005L + 1442695040888963407L (with overflow)", "N041p99");
        for (long seed : new long[] {0, 1, 2, -1, Long.MAX_VALUE, Long.MIN_VALUE, 1L << 32}) {
            x.seed(seed);
            x.drawn(1);
            due("behind " + seed, x.seed(0), seed * FACTOR + SUMMAND);
        }
        x.seed(-7379792620528906219L);
        x.drawn(1);
        due("the seed that becomes 0", x.seed(0), 0);
        x.seed(1843579416325869589L);
        x.drawn(1);
        due("the seed that becomes the least long", x.seed(0), Long.MIN_VALUE);
        x.seed(6412499349321099120L);
        x.drawn(1);
        due("the seed that becomes the greatest long", x.seed(0), Long.MAX_VALUE);
    }

    /** From the seed given, the page must be asked for at the proxy: only that costs nothing. */
    private static void drawnIs(long seed, int size, int proxy, int page) {
        StringBuilder text = new StringBuilder("N041h10");
        for (int i = 0; i < size; i++) {
            text.append("p99");
        }
        another(text.toString());
        x.ask(proxy, page);
        x.seed(seed);
        due("one of " + size + " proxies, from " + seed, x.drawn(1), 0);
        due("fetches", x.count(8), 1);
        x.drop(proxy, page);
        x.seed(seed);
        due("one of " + size + " proxies without the page, from " + seed, x.drawn(1), 5);
    }

    private static void drawnHighBits() {
        edge("promise 28", "let v be (int) (x >>> 33). Then page v / 8 % 32 is asked for at proxy v % (number of proxies)",
                null);
        int[] lastOf = {0, 0, 1, 1, 3};
        for (int size = 1; size <= 4; size++) {
            // These become 0, 2 to the 33 less 1, and -1, whose v are 0, 0 and the greatest int.
            drawnIs(-7379792620528906219L, size, 0, 0);
            drawnIs(4483922187169113968L, size, 0, 0);
            drawnIs(-2810872687533676688L, size, lastOf[size], 31);
            // This one becomes 2 to the 33, whose v is 1.
            drawnIs(-84997745826115563L, size, 1 % size, 0);
            // These become the greatest and the least long, whose v are 2 to the 30 less 1, and 2 to the 30.
            drawnIs(6412499349321099120L, size, 1073741823 % size, 31);
            drawnIs(1843579416325869589L, size, 1073741824 % size, 0);
        }
    }

    private static void drawnSteps() {
        edge("promise 28", "OUTSIDE if m is out of range", "N041p99");
        x.seed(3);
        for (int m : new int[] {0, 21, -1, 257, LEAST, MOST}) {
            due("m = " + m, x.drawn(m), OUTSIDE);
        }
        due("the seed stays", x.seed(3), 3);
        edge("promise 28", "Returns the cost of m random steps, one after the other from now on", "N041p33p22p91");
        int[] all = {1, 2, 19, 20};
        for (int m : all) {
            x.seed(m);
            int cost = x.drawn(m);
            long seed = m;
            int sum = 0;
            for (int i = 0; i < m; i++) {
                seed = seed * FACTOR + SUMMAND;
                int v = (int) (seed >>> 33);
                sum += x.plan(v % 3, 1, v / 8 % 32);
                x.ask(v % 3, v / 8 % 32);
            }
            due("cost of " + m + " steps", cost, sum);
            due("the seed behind " + m + " steps", x.seed(0), seed);
            x.net();
        }
    }

    private static void drawnWithout() {
        edge("promise 28", "without proxies, nothing is asked for / Returns the cost (0 without proxies)", null);
        x.seed(5);
        due("one step", x.drawn(1), 0);
        due("the seed goes on", x.seed(5), 5 * FACTOR + SUMMAND);
        due("20 steps", x.drawn(20), 0);
        counts(0, 0, 0, 0);
        due("21 steps", x.drawn(21), OUTSIDE);
        due("0 steps", x.drawn(0), OUTSIDE);
    }

    private static void slotRange() {
        edge("promise 29", "the slot, 0 or 1 / UNKNOWN if there is no such slot", "N041p99p99");
        for (int slot : new int[] {-1, 2, 256, LEAST, MOST}) {
            due("keep(" + slot + ")", x.keep(slot), UNKNOWN);
            due("again(" + slot + ")", x.again(slot), UNKNOWN);
        }
        due("keep(0)", x.keep(0), 2);
        due("keep(1)", x.keep(1), 2);
        due("again(0)", x.again(0), 2);
        due("again(1)", x.again(1), 2);
        due("again(2)", x.again(2), UNKNOWN);
        due("again(-1)", x.again(-1), UNKNOWN);
    }

    private static void slotsEmptyAndFull() {
        edge("promise 30", "STATE if the slot is empty", "N041p99");
        due("slot 0", x.again(0), STATE);
        due("slot 1", x.again(1), STATE);
        x.keep(0);
        due("slot 1, slot 0 being full", x.again(1), STATE);
        due("slot 0", x.again(0), 1);
        another("N041p99");
        x.keep(1);
        due("slot 0, slot 1 being full", x.again(0), STATE);
        due("slot 1", x.again(1), 1);
        edge("promise 29", "in place of what is there", "N041p99");
        x.keep(0);
        x.ask(0, 1);
        x.keep(1);
        x.ask(0, 2);
        x.keep(0);
        x.ask(0, 3);
        due("slot 1", x.again(1), 1);
        shelfIs(0, 1);
        due("slot 0", x.again(0), 1);
        shelfIs(0, 2, 1);
        edge("promise 30", "it stays there", "N041p99");
        x.keep(0);
        for (int i = 0; i < 3; i++) {
            x.ask(0, i);
            due("again", x.again(0), 1);
            shelfIs(0);
        }
    }

    private static void slotsAfterNet() {
        edge("promise 5", "and all slots are empty", "N041p99");
        x.keep(0);
        x.keep(1);
        x.write('x');
        due("a net that is refused", x.net(), STATE);
        due("slot 0 is full", x.again(0), 1);
        due("slot 1 is full", x.again(1), 1);
        newNet("N041");
        due("slot 0 is empty", x.again(0), STATE);
        due("slot 1 is empty", x.again(1), STATE);
        edge("promise 29", "Returns the number of proxies", null);
        due("none", x.keep(0), 0);
        due("none", x.again(0), 0);
        another("N041p99p99p99p99");
        due("four", x.keep(1), 4);
        due("four", x.again(1), 4);
    }

    private static void slotsHoldAll() {
        edge("promise 29", "Keeps the shelves, counters, summaries, numbers of changes, thresholds, the present family and"
                + " the counts", "N042h10h23p22p99s000s004s100");
        x.use(1);
        x.ask(0, 12);
        x.ask(1, 4);
        x.threshold(0, 7);
        x.keep(0);
        String before = Image.ofNet(x);
        x.use(0);
        x.threshold(0, 1);
        x.threshold(1, 1);
        askAll(1, 9, 8, 7);
        x.drop(0, 0);
        holds("much is changed", !Image.ofNet(x).equals(before));
        x.again(0);
        holds("all is as it was", Image.ofNet(x).equals(before));
        edge("promise 29", "Each successful call of ask(), drop(), send(), threshold() and use() is an act: keep() is none",
                "N041p99");
        x.ask(0, 0);
        x.keep(0);
        due("acts", x.count(11), 1);
        due("undo", x.undo(), 0);
        due("the slot is as it was", x.again(0), 1);
        shelfIs(0, 0);
    }

    private static void countRange() {
        edge("promise 31", "OUTSIDE if what is not 0 to 12", "N041p99");
        for (int what : new int[] {-1, 13, 14, 256, LEAST, MOST}) {
            due("count(" + what + ")", x.count(what), OUTSIDE);
        }
        due("count(0)", x.count(0), 7);
        due("count(12)", x.count(12), 0);
    }

    private static void countEnds() {
        edge("promise 31", "Returns a number: the least and the greatest ones", "N041");
        int[] least = {4, 0, 1, 4, 1, 0, 0, 0, 0, 0, 0, 0, 0};
        for (int what = 0; what < least.length; what++) {
            due("count(" + what + ") of N041", x.count(what), least[what]);
        }
        another("N163h10h20h30p99p99p99p99");
        x.use(2);
        for (int proxy = 0; proxy < 4; proxy++) {
            for (int page = 0; page < 10; page++) {
                x.ask(proxy, page);
            }
        }
        for (int i = 0; i < 6; i++) {
            x.see(3, 2, 1);
        }
        int[] whats = {0, 1, 2, 3, 4, 5, 10, 11, 12};
        int[] greatest = {25, 4, 3, 16, 3, 2, 36, 14, 6};
        for (int i = 0; i < whats.length; i++) {
            due("count(" + whats[i] + ")", x.count(whats[i]), greatest[i]);
        }
    }
}
