/** The range of each argument of each method, just inside and just outside, and the order of errors. */
final class RangeEdges extends Edge {
    private static final int NO_ERROR = -100;

    private interface Call {
        long of(int value);
    }

    private RangeEdges() {
    }

    static void run() {
        for (int size = 0; size <= 4; size++) {
            proxies(size);
        }
        pages();
        families();
        functions();
        otherArguments();
        orderedPages();
        unknownFirst();
        unknownBeforeState();
    }

    private static boolean isError(long answer) {
        return answer < 0 && answer != NONE;
    }

    /**
     * A call must answer with the error outside of the range, and without one at its ends, each of them on a
     * new object with the net of the text.
     */
    private static void range(String name, String text, int least, int most, int error, Call call) {
        edge(name, "from " + least + " to " + most + ", else " + error, text);
        long[] outside = {least - 1L, most + 1L, least - 2L, most + 2L, LEAST, MOST, least + 256L, least + 65536L,
            most - 256L};
        for (long value : outside) {
            if (value >= LEAST && value <= MOST && (value < least || value > most)) {
                another(text);
                due(name + " of " + value, call.of((int) value), error);
            }
        }
        for (int value : least <= most ? new int[] {least, most} : new int[0]) {
            another(text);
            long answer = call.of(value);
            due(name + " of " + value, isError(answer) ? answer : NO_ERROR, NO_ERROR);
        }
    }

    /** Every method that takes a proxy, of a net that has so many, each with page 0 on its shelf. */
    private static void proxies(int size) {
        StringBuilder net = new StringBuilder("N041");
        for (int i = 0; i < size; i++) {
            net.append("p99s").append(i).append("00");
        }
        String text = net.toString();
        int last = size - 1;
        range("promise 6, proxy", text, 0, last, UNKNOWN, v -> x.proxy(v, 0));
        range("promise 7, proxy", text, 0, last, UNKNOWN, v -> x.page(v, 0));
        range("promise 8, proxy", text, 0, last, UNKNOWN, v -> x.counter(v, 0));
        range("promise 10, proxy", text, 0, last, UNKNOWN, v -> x.says(v, 0, false));
        range("promise 10, proxy, now", text, 0, last, UNKNOWN, v -> x.says(v, 0, true));
        range("promise 11, proxy", text, 0, last, UNKNOWN, v -> x.ask(v, 0));
        range("promise 12, proxy", text, 0, last, UNKNOWN, v -> x.drop(v, 0));
        range("promise 13, proxy", text, 0, last, UNKNOWN, v -> x.send(v));
        range("promise 14, proxy", text, 0, last, UNKNOWN, v -> x.threshold(v, 1));
        range("promise 17, proxy", text, 0, last, UNKNOWN, v -> x.weight(v));
        range("promise 18, proxy", text, 0, last, UNKNOWN, v -> x.best(v, 0));
        range("promise 19, proxy", text, 0, last, UNKNOWN, v -> x.plan(v, 1, 0));
        range("promise 20, proxy", text, 0, last, UNKNOWN, v -> x.order(v, 1, -1));
        range("promise 22, proxy", text, 0, last, UNKNOWN, v -> x.see(v, 0, 0));
        range("promise 25, proxy", text, 0, last, UNKNOWN, v -> x.share(v, true));
        range("promise 25, proxy, denominator", text, 0, last, UNKNOWN, v -> x.share(v, false));
        range("promise 26, proxy", text, 0, last, UNKNOWN, v -> x.lost(v, 0, 0, true));
        range("promise 26, proxy, denominator", text, 0, last, UNKNOWN, v -> x.lost(v, 0, 0, false));
        for (int a = 0; a <= 9 && size > 0; a++) {
            due("a claim of proxy " + a, x.judge(1, 40001L + 1000L * a), a < size ? NONE : 0);
        }
    }

    private static void pages() {
        String text = "N041h10p99p99s000s031";
        range("promise 9, page", text, 0, 31, UNKNOWN, v -> x.hash(0, v, 0));
        range("promise 10, page", text, 0, 31, UNKNOWN, v -> x.says(0, v, false));
        range("promise 10, page, now", text, 0, 31, UNKNOWN, v -> x.says(0, v, true));
        range("promise 11, page", text, 0, 31, UNKNOWN, v -> x.ask(0, v));
        range("promise 11, page of no shelf", text, 0, 31, UNKNOWN, v -> x.ask(1, v));
        range("promise 12, page", text, 0, 31, UNKNOWN, v -> x.drop(0, v));
        range("promise 26, page", text, 0, 31, UNKNOWN, v -> x.lost(0, v, 0, true));
        range("promise 26, page of no shelf", text, 0, 31, UNKNOWN, v -> x.lost(1, v, 10, false));
    }

    private static void families() {
        String text = "N041p99";
        for (int families = 0; families <= 3; families++) {
            int last = families == 0 ? 0 : families - 1;
            range("promise 9, family", text, 0, last, UNKNOWN, v -> x.hash(v, 31, 0));
            range("promise 15, family", text, 0, last, UNKNOWN, v -> x.use(v));
            for (int a = 0; a <= 9; a++) {
                due("a step to family " + a, x.judge(1, 70000L + 1000L * a), a <= last ? NONE : 0);
            }
            text += "h1" + families;
        }
    }

    private static void functions() {
        for (int k = 1; k <= 3; k++) {
            range("promise 9, i", "N04" + k, 0, k - 1, OUTSIDE, v -> x.hash(0, 31, v));
        }
        for (int m = 4; m <= 16; m++) {
            range("promise 8, cell", String.format("N%02d1p11", m), 0, m - 1, UNKNOWN, v -> x.counter(0, v));
        }
    }

    private static void otherArguments() {
        String text = "N041p99p99s000";
        range("promise 2, letter", null, 0, 255, OUTSIDE, v -> x.write(v));
        range("promise 6, what", text, 0, 7, OUTSIDE, v -> x.proxy(0, v));
        range("promise 7, place", text, 0, 8, OUTSIDE, v -> x.page(0, v));
        range("promise 14, t", text, 1, 9, OUTSIDE, v -> x.threshold(0, v));
        range("promise 18, what", text, 0, 1, OUTSIDE, v -> x.best(0, v));
        range("promise 19, n", text, 1, 4, OUTSIDE, v -> x.plan(0, v, 0));
        range("promise 19, row of 1", text, 0, 31, OUTSIDE, v -> v > 31 && v < 100 ? OUTSIDE : x.plan(0, 1, v));
        range("promise 20, k", text, -1, MOST, OUTSIDE, v -> x.order(0, 7, v));
        range("promise 21, n", text, 1, 3, OUTSIDE, v -> x.judge(v, 0));
        range("promise 22, what", text, 0, 2, OUTSIDE, v -> x.see(0, v, 0));
        range("promise 22, was", text, 0, 1, OUTSIDE, v -> x.see(0, 0, v));
        range("promise 26, x", text, 0, 10, OUTSIDE, v -> x.lost(1, 0, v, true));
        range("promise 26, x, denominator", text, 0, 10, OUTSIDE, v -> x.lost(1, 0, v, false));
        range("promise 28, m", text, 1, 20, OUTSIDE, v -> x.drawn(v));
        range("promise 28, m without proxies", null, 1, 20, OUTSIDE, v -> x.drawn(v));
        range("promise 29, slot", text, 0, 1, UNKNOWN, v -> x.keep(v));
        range("promise 30, slot", text, 0, 1, UNKNOWN, v -> x.keep(0) + x.keep(1) > 0 ? x.again(v) : 0);
        range("promise 31, what", text, 0, 12, OUTSIDE, v -> x.count(v));
    }

    private static void orderedPages() {
        edge("promise 20", "a bit set of 1 to 5 pages", "N041p99");
        for (int n = 0; n <= 32; n++) {
            int low = n == 32 ? -1 : (1 << n) - 1;
            int high = n == 0 ? 0 : -1 << (32 - n);
            boolean fine = n >= 1 && n <= 5;
            due("the " + n + " first pages", isError(x.order(0, low, -1)) ? 0 : 1, fine ? 1 : 0);
            due("the " + n + " last pages", isError(x.order(0, high, -1)) ? 0 : 1, fine ? 1 : 0);
        }
    }

    private static void unknownFirst() {
        edge("errors", "Each method lists its errors in the order in which they are checked", "N041p99s000");
        due("proxy, what", x.proxy(1, 8), UNKNOWN);
        due("proxy, place", x.page(1, 9), UNKNOWN);
        due("proxy, place, NONE", x.page(1, 8), UNKNOWN);
        due("place, NONE", x.page(0, 9), OUTSIDE);
        due("family, i", x.hash(1, 0, 1), UNKNOWN);
        due("page, i", x.hash(0, 32, 1), UNKNOWN);
        due("proxy, t", x.threshold(1, 0), UNKNOWN);
        due("proxy, what", x.best(1, 2), UNKNOWN);
        due("proxy, n", x.plan(1, 0, 0), UNKNOWN);
        due("proxy, row", x.plan(1, 1, 100), UNKNOWN);
        due("n, page", x.plan(0, 0, 32), OUTSIDE);
        due("row, page", x.plan(0, 1, 132), OUTSIDE);
        due("proxy, no pages", x.order(1, 0, 0), UNKNOWN);
        due("proxy, k", x.order(1, 1, -2), UNKNOWN);
        due("pages, NONE", x.order(0, 0, 5), OUTSIDE);
        due("proxy, what", x.see(1, 3, 0), UNKNOWN);
        due("proxy, was", x.see(1, 0, 2), UNKNOWN);
        due("proxy, x", x.lost(1, 0, 11, true), UNKNOWN);
        due("page, x", x.lost(0, 32, 11, true), UNKNOWN);
        due("x, a page of the shelf", x.lost(0, 0, 11, true), OUTSIDE);
    }

    private static void unknownBeforeState() {
        edge("errors", "the first one that applies is returned", "N041p99s000");
        due("proxy, not on its shelf", x.drop(1, 1), UNKNOWN);
        due("page, not on the shelf", x.drop(0, 32), UNKNOWN);
        due("slot, empty", x.again(2), UNKNOWN);
        due("slot, empty", x.again(-1), UNKNOWN);
        for (int i = 0; i < 6; i++) {
            x.see(0, 0, 1);
        }
        due("proxy, full", x.see(1, 0, 1), UNKNOWN);
        due("what, full", x.see(0, 3, 1), OUTSIDE);
        due("was, full", x.see(0, 0, 2), OUTSIDE);
        due("full", x.see(0, 0, 1), FULL);
        for (int i = x.count(0); i < 100; i++) {
            x.write('x');
        }
        due("letter, full", x.write(256), OUTSIDE);
        due("letter, full", x.write(-1), OUTSIDE);
        due("full", x.write(255), FULL);
    }
}
