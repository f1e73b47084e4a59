/** The edges of what is asked and computed. Promises 17 to 21 and 25 to 28. */
final class QuestionEdges extends Edge {
    private QuestionEdges() {
    }

    static void run() {
        weights();
        bestOfEqual();
        bestAsRebuilt();
        plannedPages();
        plannedRow();
        plannedOneAfterTheOther();
        orderedSets();
        orderedPlaces();
        orderedEqual();
        judgedNumber();
        judgedRow();
        judgedForms();
        judgedFirst();
        judgedThings();
        judgedAsThingsAreThen();
        shares();
        lostNever();
        lostTenths();
        lostAmongFour();
    }

    private static void weightIs(int proxy, float estimate) {
        due("weight(" + proxy + ")", x.weight(proxy), Float.floatToIntBits(estimate));
    }

    private static void weights() {
        edge("promise 17", "The estimate is w, w * w or w * w * w (multiplied from the left), as K is 1, 2 or 3", null);
        for (int k = 1; k <= 3; k++) {
            another("N04" + k + "h10p99p99");
            weightIs(0, 0f);
            x.ask(0, 0);
            weightIs(0, k == 1 ? 0.25f : k == 2 ? 0.0625f : 0.015625f);
            askAll(0, 1, 2, 3);
            weightIs(0, 1f);
            weightIs(1, 0f);
        }
        another("N163h10p99s000");
        weightIs(0, 1f / 4096f);
        edge("promise 17", "(multiplied from the left), as K is 1, 2 or 3, computed in float",
                "N113h10p99s000s001s002s003s004");
        float w = (float) 5 / (float) 11;
        weightIs(0, w * w * w);
        edge("promise 17", "(number of cells that the filter has): not the summary, not the counters", "N041h10p99");
        for (int i = 0; i < 8; i++) {
            x.ask(0, 4 * i);
        }
        weightIs(0, 0.25f);
        for (int i = 0; i < 8; i++) {
            x.drop(0, 4 * i);
        }
        weightIs(0, 0.25f);
        x.use(0);
        weightIs(0, 0f);
    }

    private static void bestIs(int proxy, int family, int pages) {
        due("best family of " + proxy, x.best(proxy, 0), family);
        due("its number of pages", x.best(proxy, 1), pages);
    }

    private static void bestOfEqual() {
        edge("promise 18", "of several the one with the smallest number", "N041h10h20h30p99p99s000s001s002s003");
        bestIs(1, 0, 0);
        due("use", x.use(2), 0);
        bestIs(1, 0, 0);
        // By A = 1 and by A = 3 the four pages have all cells.
        another("N041h10h30p99s000s001s002s003");
        bestIs(0, 0, 28);
        edge("promise 18", "would contain the fewest pages that are not on its shelf", null);
        // 4 * p + 4 is below 37 for the pages 0 to 8 alone, and these have cell 0.
        another("N041h10h44h44p51s000s001");
        bestIs(0, 1, 7);
        another("N041h10h20h44p51s000s001");
        bestIs(0, 2, 7);
        another("N041h44h10h44p51s000s001");
        bestIs(0, 0, 7);
        edge("promise 18", "its filter, if it were rebuilt by this family: no cells", "N041h10p11");
        bestIs(0, 0, 0);
        edge("promise 18", "its filter, if it were rebuilt by this family: one cell is missing", "N041h10p99s001s002s003");
        bestIs(0, 0, 21);
        another("N041h10p99s000s001s002");
        bestIs(0, 0, 21);
        // By 9 and 36 more, page 0 has the cells 1 and 4, page 3 has 4 and 2: so have 11, 19, 27 and 29.
        edge("promise 18", "its filter, if it were rebuilt by this family: the shelf's pages and K functions alone",
                "N082h19p99s000s003");
        bestIs(0, 0, 4);
        edge("promise 18", "Finds the best family for a proxy: no family of an earlier net", "N041h10h44p51s000s001");
        x.wipe();
        Check.write(x, "N041h10p51s000s001");
        x.net();
        bestIs(0, 0, 14);
    }

    private static void bestAsRebuilt() {
        edge("promise 18", "if it were rebuilt: a counter that stays 7 counts no more", "N041h10p99");
        for (int i = 0; i < 7; i++) {
            x.ask(0, 4 * i);
        }
        bestIs(0, 0, 1);
        for (int i = 0; i < 7; i++) {
            x.drop(0, 4 * i);
        }
        due("its filter still contains 8 pages", x.says(0, 28, true), 1);
        bestIs(0, 0, 0);
        edge("promise 18", "OUTSIDE if what is not 0 or 1", "N041h10p99");
        for (int what : new int[] {-1, 2, 256, LEAST, MOST}) {
            due("what " + what, x.best(0, what), OUTSIDE);
        }
    }

    private static void plannedPages() {
        edge("promise 19", "UNKNOWN if one of the pages is above 31", "N081h10p99");
        due("page 31", x.plan(0, 1, 31), 5);
        due("page 32", x.plan(0, 1, 32), UNKNOWN);
        due("page 99", x.plan(0, 1, 99), UNKNOWN);
        due("page 0", x.plan(0, 1, 0), 5);
        due("four times page 31", x.plan(0, 4, 31313131), 5);
        due("page 32 as the first", x.plan(0, 4, 32000000), UNKNOWN);
        due("page 32 as the second", x.plan(0, 4, 320000), UNKNOWN);
        due("page 32 as the third", x.plan(0, 4, 3200), UNKNOWN);
        due("page 32 as the fourth", x.plan(0, 4, 32), UNKNOWN);
        due("four times page 0", x.plan(0, 4, 0), 5);
        edge("promise 19", "those of the first page being the highest ones", "N081h10p19s001");
        due("pages 1 and 2", x.plan(0, 2, 102), 5);
        due("pages 2 and 1", x.plan(0, 2, 201), 10);
        due("pages 0, 0 and 1", x.plan(0, 3, 1), 10);
    }

    private static void plannedRow() {
        edge("promise 19", "OUTSIDE if n is out of range", "N081h10p99");
        for (int n : new int[] {0, 5, -1, 257, LEAST, MOST}) {
            due("n = " + n, x.plan(0, n, 0), OUTSIDE);
        }
        due("n = 1", x.plan(0, 1, 0), 5);
        due("n = 4", x.plan(0, 4, 10203), 20);
        edge("promise 19", "or row is negative or has more than 2 * n digits", "N081h10p99");
        int[] least = {100, 10000, 1000000, 100000000};
        for (int n = 1; n <= 4; n++) {
            due("the least row with more digits than " + 2 * n, x.plan(0, n, least[n - 1]), OUTSIDE);
            due("the greatest row with no more", x.plan(0, n, least[n - 1] - 1), UNKNOWN);
            due("-1", x.plan(0, n, -1), OUTSIDE);
            due("the least int", x.plan(0, n, LEAST), OUTSIDE);
            due("the greatest int", x.plan(0, n, MOST), OUTSIDE);
        }
        edge("promise 19", "Each method lists its errors in the order in which they are checked", "N081h10p99");
        due("no proxy, n, row, page", x.plan(1, 0, -1), UNKNOWN);
        due("n and page", x.plan(0, 0, 32), OUTSIDE);
        due("n and page", x.plan(0, 5, 99), OUTSIDE);
        due("row and page", x.plan(0, 1, 132), OUTSIDE);
        due("row and page", x.plan(0, 2, 323232), OUTSIDE);
    }

    private static void plannedOneAfterTheOther() {
        edge("promise 19", "one after the other from now on", "N081h10p12p12s000s108");
        // Page 8 costs a request and a message; behind it page 0 a request, a fetch and a message.
        due("page 8", x.plan(0, 1, 8), 1 + 1);
        due("page 8, then page 0", x.plan(0, 2, 800), 2 + 1 + 5 + 1);
        due("page 0, then page 8", x.plan(0, 2, 8), 2);
        due("a page of the shelf costs nothing", x.plan(0, 4, 0), 0);
        edge("cost", "the number of requests plus the number of messages plus 5 times the number of fetches: false hits"
                + " alone cost nothing more", "N081h10p99p99p99p99s100s200s300");
        due("three false hits and a fetch", x.plan(0, 1, 8), 3 + 5);
        edge("cost", "that it adds to the counts", "N081h10p91p91");
        askAll(0, 1, 2, 3);
        due("a fetch and a message", x.plan(1, 1, 4), 5 + 1);
    }

    private static void orderedSets() {
        edge("promise 20", "OUTSIDE if the set does not have 1 to 5 pages", "N081h10p99s000");
        due("no page", x.order(0, 0, -1), OUTSIDE);
        due("page 0", x.order(0, 1, -1), 0);
        due("page 31", x.order(0, LEAST, -1), 5);
        due("page 31, as the first", x.order(0, LEAST, 0), 31);
        due("five pages", x.order(0, 31, -1), 20);
        due("five pages with page 31", x.order(0, LEAST | 30, 4), 31);
        due("six pages", x.order(0, 63, -1), OUTSIDE);
        due("six pages with page 31", x.order(0, LEAST | 31, -1), OUTSIDE);
        due("31 pages", x.order(0, MOST, -1), OUTSIDE);
        due("32 pages", x.order(0, -1, -1), OUTSIDE);
        edge("promise 20", "or k is less than -1", "N081h10p99s000");
        due("-1", x.order(0, 1, -1), 0);
        due("-2", x.order(0, 1, -2), OUTSIDE);
        due("-9", x.order(0, 1, NONE), OUTSIDE);
        due("the least int", x.order(0, 1, LEAST), OUTSIDE);
        due("UNKNOWN comes before OUTSIDE", x.order(1, 0, -2), UNKNOWN);
        due("no page, and an index that there is not", x.order(0, 0, 9), OUTSIDE);
        due("six pages, and an index", x.order(0, 63, 5), OUTSIDE);
    }

    private static void orderedPlaces() {
        for (int n = 1; n <= 5; n++) {
            edge("promise 20", "or the page with this index (NONE if there are not so many)", "N081h10p99");
            int pages = (1 << n) - 1 << 10;
            for (int k = 0; k < n; k++) {
                due("page " + k + " of " + n, x.order(0, pages, k), 10 + k);
            }
            for (int k : new int[] {n, n + 1, 5, 6, 256, MOST}) {
                due("page " + k + " of " + n, x.order(0, pages, k), NONE);
            }
            due("the cost", x.order(0, pages, -1), 5 * n);
        }
    }

    private static void orderIs(int proxy, int pages, int cost, int... order) {
        due("cost of " + pages, x.order(proxy, pages, -1), cost);
        for (int i = 0; i < order.length; i++) {
            due("page " + i + " of " + pages, x.order(proxy, pages, i), order[i]);
        }
        due("no page more of " + pages, x.order(proxy, pages, order.length), NONE);
    }

    private static void orderedEqual() {
        edge("promise 20", "of several the one whose first page is smallest, then the second one, and so on",
                "N081h10p19s005");
        orderIs(0, LEAST | 1 << 30 | 7, 25, 0, 1, 2, 30, 31);
        orderIs(0, 7 << 4, 10, 5, 4, 6);
        orderIs(0, 15 << 4, 15, 5, 4, 6, 7);
        another("N081h10p59s031s030");
        orderIs(0, 3 << 30, 0, 30, 31);
        edge("promise 20", "Finds the order in which it is cheapest", "N081h10p29s005s004");
        orderIs(0, 7 << 3, 5, 4, 5, 3);
        another("N081h10p19s031");
        orderIs(0, LEAST | 1 << 30, 5, 31, 30);
        // What is not on the shelf comes behind what would go from it.
        another("N081h10p49s002s003s004s005");
        orderIs(0, 31 << 1, 5, 2, 3, 4, 5, 1);
        another("N081h10p29s004s005");
        orderIs(0, 31 << 1, 15, 4, 5, 1, 2, 3);
        edge("promise 20", "the order in which it is cheapest to ask for all pages [...] from now on: counts from before",
                "N081h10p11p99s000");
        askAll(1, 0, 8, 9, 10);
        orderIs(0, 7, 2 * (5 + 1), 0, 1, 2);
    }

    private static void judgedNumber() {
        edge("promise 21", "OUTSIDE if n is out of range", "N081h10p99s000");
        for (int n : new int[] {0, 4, -1, 257, LEAST, MOST}) {
            due("n = " + n, x.judge(n, 40001L), OUTSIDE);
        }
        due("one step", x.judge(1, 40001L), NONE);
        due("two steps", x.judge(2, 4000140001L), NONE);
        due("three steps", x.judge(3, 400014000140001L), NONE);
    }

    private static void judgedRow() {
        edge("promise 21", "or row is negative or has more than 5 * n digits", "N081h10p99s000");
        long[] least = {100000L, 10000000000L, 1000000000000000L};
        for (int n = 1; n <= 3; n++) {
            due("the least row with more digits than " + 5 * n, x.judge(n, least[n - 1]), OUTSIDE);
            due("the greatest row with no more", x.judge(n, least[n - 1] - 1), 0);
            due("0", x.judge(n, 0L), 0);
            due("-1", x.judge(n, -1L), OUTSIDE);
            due("-40001", x.judge(n, -40001L), OUTSIDE);
            due("the least long", x.judge(n, Long.MIN_VALUE), OUTSIDE);
            due("the greatest long", x.judge(n, Long.MAX_VALUE), OUTSIDE);
            due("the least long and a step", x.judge(n, (1L << 63) | 40001L), OUTSIDE);
        }
        due("more than an int holds, of one step", x.judge(1, (1L << 32) + 40001L), OUTSIDE);
        due("fewer digits: the first steps are of sort 0", x.judge(2, 40001L), 0);
        due("fewer digits: the first steps are of sort 0", x.judge(3, 4000140001L), 0);
    }

    /** Each step alone must be possible, and true if it is a claim. */
    private static void possible(int... steps) {
        for (int step : steps) {
            due("step " + step, x.judge(1, step), NONE);
        }
    }

    /** Each step alone must be impossible or an untrue claim. */
    private static void failing(int... steps) {
        for (int step : steps) {
            due("step " + step, x.judge(1, step), 0);
        }
    }

    private static void judgedForms() {
        edge("promise 21", "A step is impossible if it does not have one of these forms", "N081h10h20p99p99s000s031");
        failing(0, 1, 1000, 80000, 90000, 99999);
        possible(10000, 10310, 11310);
        failing(10001, 10009, 10311);
        possible(20000, 20310);
        failing(20001, 20009, 20311);
        possible(30000, 31000);
        failing(30001, 30009, 30010, 30100, 30310, 30990);
        possible(40001, 40010, 40311, 41310);
        failing(40002, 40009, 40012, 40000, 40011);
        possible(50001, 50010, 50311, 51310);
        failing(50002, 50009, 50012, 50000, 50011);
        possible(60000, 61000);
        failing(60001, 60009, 60010, 60100, 60310, 60990);
        possible(70000, 71000);
        failing(70001, 70009, 70010, 70100, 70310, 70990);
    }

    private static void judgedThings() {
        edge("promise 21", "if there is no such proxy, page (0 to 31) or family", "N081h10h20p99p99p99s000s031");
        possible(10000, 12000, 32000, 42000, 52000, 62000, 70000, 71000);
        failing(13000, 19000, 33000, 39000, 43000, 49000, 53000, 59000, 63000, 69000, 72000, 73000, 79000);
        possible(10310, 20310, 40311, 50311);
        failing(10320, 20320, 40320, 40321, 50320, 50321, 10990, 20990, 40990, 50990);
        edge("promise 21", "or if a page that is to be dropped is not on the shelf", "N081h10p99p99s000s108");
        possible(20000, 21080);
        failing(20080, 21000, 20010);
        due("twice", x.judge(2, 2000020000L), 1);
        due("asked for in between", x.judge(3, 200001000020000L), NONE);
        another("N081h10p11s000");
        due("it went because there was no room", x.judge(2, 1001020000L), 1);
        another(null);
        due("no proxies", x.judge(1, 10000L), 0);
        due("a family without proxies", x.judge(1, 70000L), NONE);
        due("no second family", x.judge(1, 71000L), 0);
    }

    private static void judgedFirst() {
        edge("promise 21", "Returns the index, from 0, of the first step that is impossible or is a claim that is not true",
                "N081h10p99s000");
        due("none", x.judge(3, 400013000060000L), NONE);
        due("the first", x.judge(3, 400003000060000L), 0);
        due("the second", x.judge(3, 400014000060000L), 1);
        due("the third", x.judge(3, 400013000060001L), 2);
        due("the second and the third", x.judge(3, 400019000060001L), 1);
        due("all", x.judge(3, 0L), 0);
        due("an impossible step before an untrue claim", x.judge(2, 1032040000L), 0);
        due("an untrue claim before an impossible step", x.judge(2, 4000010320L), 0);
    }

    private static void judgedAsThingsAreThen() {
        edge("promise 21", "6 a 00 v  the claim that the number of changes of proxy a is v", "N161h10p99p99s000");
        possible(60000);
        askAll(0, 1, 2, 3, 4, 5, 6, 7);
        possible(60007);
        failing(60006, 60008);
        due("one more", x.judge(2, 1008060008L), NONE);
        due("two more make it send", x.judge(3, 100801009060000L), NONE);
        edge("promise 21", "claims are checked as things are then", "N161h10h20p99p99s000");
        due("before and behind an ask", x.judge(3, 400101001040011L), NONE);
        due("the summary stays behind an ask", x.judge(2, 1001050011L), 1);
        due("the summary behind a send", x.judge(3, 100103000050011L), NONE);
        due("the summary behind a use", x.judge(3, 100107000050011L), NONE);
        due("by the family used: 2 * 8 is cell 0", x.judge(2, 7100050081L), NONE);
        due("by the family before: 8 is cell 8", x.judge(1, 50081L), 0);
        due("a drop, and a false hit", x.judge(3, 200001100040001L), 2);
    }

    private static void shareIs(int proxy, int upper, int lower) {
        due("numerator of " + proxy, x.share(proxy, true), upper);
        due("denominator of " + proxy, x.share(proxy, false), lower);
    }

    private static void shares() {
        edge("promise 25", "(0 is 0/1)", "N041p91p91s100");
        shareIs(0, 0, 1);
        shareIs(1, 1, 1);
        edge("promise 25", "It is a fraction in lowest terms", "N041p91s000s001s002s003s004s005s006s007s008");
        shareIs(0, 9, 1);
        another("N041p91p91s000s100");
        shareIs(0, 1, 2);
        shareIs(1, 1, 2);
        another("N041p91p91p91s000s100s200");
        shareIs(0, 1, 3);
        another("N041p91p91p91p91s000s100s200s300");
        shareIs(3, 1, 4);
        another("N041p91p91p91p91s000s100s200s300s001s101s201s301");
        shareIs(0, 1, 2);
        another("N041p91p91p91s000s100s200s001s101s031");
        shareIs(0, 11, 6);
        shareIs(1, 5, 6);
        shareIs(2, 1, 3);
        another("N041p91p91p91p91s000s100s200s300s001s101s201");
        shareIs(0, 7, 12);
        shareIs(3, 1, 4);
        another("N041p91p91s000s100s001s101");
        shareIs(0, 1, 1);
    }

    private static void lostIs(int proxy, int page, int tenths, int upper, int lower) {
        String call = "lost(" + proxy + ", " + page + ", " + tenths + ")";
        due(call + ", numerator", x.lost(proxy, page, tenths, true), upper);
        due(call + ", denominator", x.lost(proxy, page, tenths, false), lower);
    }

    private static void lostNever() {
        edge("promise 26", "(If the page is on the shelf of the proxy, it is 1.)", "N081h10p99p99s000");
        x.ask(1, 8);
        lostIs(0, 0, 0, 1, 1);
        lostIs(0, 0, 5, 1, 1);
        lostIs(0, 0, 10, 1, 1);
        edge("promise 26", "OUTSIDE if x is out of range", "N081h10p99p99s000");
        for (int tenths : new int[] {-1, 11, 266, LEAST, MOST}) {
            due("x = " + tenths, x.lost(0, 5, tenths, true), OUTSIDE);
            due("x = " + tenths + ", on the shelf", x.lost(0, 0, tenths, false), OUTSIDE);
            due("x = " + tenths + ", no page", x.lost(0, 32, tenths, false), UNKNOWN);
            due("x = " + tenths + ", no proxy", x.lost(2, 0, tenths, true), UNKNOWN);
        }
        edge("promise 26", "the probability that there is no false hit by this: there are no others", "N081h10p99");
        lostIs(0, 0, 0, 1, 1);
        lostIs(0, 0, 3, 1, 1);
        edge("promise 26", "the probability that there is no false hit by this: nobody has anything", "N081h10p99p99p99p99");
        lostIs(0, 31, 7, 1, 1);
    }

    private static void lostTenths() {
        edge("promise 26", "each of these messages is lost with the probability x / 10", "N081h10p99p99");
        x.ask(1, 3);
        int[] upper = {1, 9, 4, 7, 3, 1, 2, 3, 1, 1, 0};
        int[] lower = {1, 10, 5, 10, 5, 2, 5, 10, 5, 10, 1};
        for (int tenths = 0; tenths <= 10; tenths++) {
            lostIs(0, 3, tenths, upper[tenths], lower[tenths]);
            // Page 11 is a false hit unless the message is lost.
            lostIs(0, 11, tenths, upper[10 - tenths], lower[10 - tenths]);
        }
        edge("promise 26", "(the summary of the proxy stays as it is then)", "N081h10p99p99s103");
        x.drop(1, 3);
        lostIs(0, 3, 10, 0, 1);
        lostIs(0, 3, 0, 1, 1);
        lostIs(0, 3, 4, 3, 5);
    }

    private static void lostAmongFour() {
        edge("promise 26", "that it does not happen that the page is fetched although another proxy has it",
                "N081h10p99p99p99p99");
        x.ask(1, 3);
        x.ask(2, 3);
        x.ask(3, 3);
        lostIs(0, 3, 1, 999, 1000);
        lostIs(0, 3, 9, 271, 1000);
        lostIs(0, 3, 10, 0, 1);
        lostIs(0, 11, 1, 1, 1000);
        lostIs(0, 11, 9, 729, 1000);
        lostIs(3, 11, 5, 1, 4);
        edge("promise 26", "after that a page is asked for at a proxy: the first has it, the last asks", "N081h10p99p99p99");
        x.ask(0, 3);
        lostIs(2, 3, 3, 7, 10);
        lostIs(2, 11, 3, 3, 10);
        lostIs(1, 3, 10, 0, 1);
        lostIs(0, 3, 10, 1, 1);
        edge("promise 26", "no false hit: the one that has it is asked behind one that has not", "N081h10p99p99p99");
        x.ask(1, 11);
        x.ask(2, 3);
        lostIs(0, 3, 3, 21, 100);
        lostIs(0, 11, 3, 7, 10);
        edge("promise 26", "0/1", "N081h10p99p99s103");
        lostIs(0, 11, 0, 0, 1);
        lostIs(0, 11, 5, 0, 1);
        lostIs(0, 11, 10, 0, 1);
    }
}
