/**
 * The edges of cells, counters, filters, summaries and shelves. Promises 1 and 6 to 10, "Pages, proxies and
 * filters". In the text N041h10 the cell of a page is its rest by 4; N042h10 and N043h10 give it two and three times.
 */
final class FilterEdges extends Edge {
    private FilterEdges() {
    }

    static void run() {
        firstState();
        cellFormula();
        cellsOfEachSize();
        counterRises();
        counterFalls();
        counterIsStuck();
        counterIsStuckByTwo();
        stuckCounterBesideAnother();
        stuckUntilRebuilt();
        stuckWithoutPages();
        stuckAsKept();
        cellsAboveZero();
        allFunctions();
        noCells();
        properties();
        wronglySaid();
        pagesFrom0To31();
        changesAreCounted();
        places();
    }

    private static void firstState() {
        edge("promise 1", "At first there are no proxies, M is 8 and K is 2, and there is one family", null);
        int[] counts = {0, 0, 1, 8, 2, 0, 0, 0, 0, 0, 0, 0, 0};
        for (int i = 0; i < counts.length; i++) {
            due("count(" + i + ")", x.count(i), counts[i]);
        }
        due("page 31 by function 0", x.hash(0, 31, 0), 0);
        due("page 31 by function 1", x.hash(0, 31, 1), 35 % 8);
        due("function 2", x.hash(0, 31, 2), OUTSIDE);
        due("family 1", x.hash(1, 31, 0), UNKNOWN);
        due("proxy 0", x.proxy(0, 0), UNKNOWN);
        edge("promise 1", "with an empty text, no observations and the seed 0", null);
        due("wipe", x.wipe(), 0);
        due("fault", x.fault(), 0);
        due("unsee", x.unsee(), 0);
        due("which", x.which(), -1);
        due("seed", x.seed(1), 0);
        edge("promise 1", "nothing can be undone, and all slots are empty", null);
        due("undo", x.undo(), STATE);
        due("again(0)", x.again(0), STATE);
        due("again(1)", x.again(1), STATE);
        due("net", x.net(), STATE);
    }

    private static void cellFormula() {
        edge("promise 9", "(A * p + B * (i + 1) * (i + 1)) % 37 % M", "N163h99h10h16");
        due("9 * 31 + 9 = 288", x.hash(0, 31, 0), 29 % 16);
        due("9 * 31 + 36 = 315", x.hash(0, 31, 1), 19 % 16);
        due("9 * 31 + 81 = 360", x.hash(0, 31, 2), 27 % 16);
        due("the least: page 0 by A = 1 and B = 0", x.hash(1, 0, 2), 0);
        due("15 is below M", x.hash(1, 15, 0), 15);
        due("16 is M", x.hash(1, 16, 0), 0);
        due("31 + 0", x.hash(1, 31, 0), 15);
        due("30 + 6 = 36", x.hash(2, 30, 0), 4);
        due("31 + 6 = 37", x.hash(2, 31, 0), 0);
    }

    private static void cellsOfEachSize() {
        for (int m = 4; m <= 16; m++) {
            edge("promise 8", "the cell, 0 to M - 1", String.format("N%02d1h10p99", m));
            due("M", x.count(3), m);
            due("the last cell of " + m, x.hash(0, m - 1, 0), m - 1);
            due("then the first again", x.hash(0, m, 0), 0);
            x.ask(0, m - 1);
            due("the last counter of " + m, x.counter(0, m - 1), 1);
            due("the first counter", x.counter(0, 0), 0);
            due("counter M", x.counter(0, m), UNKNOWN);
            due("counter -1", x.counter(0, -1), UNKNOWN);
            due("the filter as a bit set", x.send(0), 1 << (m - 1));
        }
        edge("promise 8", "UNKNOWN if there is no such proxy or cell", "N041p11");
        for (int cell : new int[] {4, 5, 15, 16, 17, 256, LEAST, MOST}) {
            due("counter " + cell + " of 4", x.counter(0, cell), UNKNOWN);
        }
        due("no proxy, but a cell", x.counter(1, 0), UNKNOWN);
    }

    /** Pages of cell 0 come: their counter must be these values in turn. */
    private static void risesBy(String text, int... values) {
        another(text);
        for (int i = 0; i < values.length; i++) {
            due("counter of " + text + " before page " + i, x.counter(0, 0), i == 0 ? 0 : values[i - 1]);
            x.ask(0, 4 * i);
            due("counter of " + text + " behind page " + i, x.counter(0, 0), values[i]);
        }
    }

    private static void counterRises() {
        edge("filters", "A filter has a counter from 0 to 7 for each cell", null);
        risesBy("N041h10p99", 1, 2, 3, 4, 5, 6, 7, 7);
        edge("filters", "If two hash functions give the same cell, its counter changes twice", null);
        risesBy("N042h10p99", 2, 4, 6, 7, 7);
        edge("filters", "by hash function 0, then by hash function 1, and so on", null);
        risesBy("N043h10p99", 3, 6, 7, 7);
    }

    private static void counterFalls() {
        edge("filters", "when a page goes, these counters decrease by 1", null);
        risesBy("N041h10p99", 1, 2, 3, 4, 5, 6);
        for (int i = 0; i < 6; i++) {
            x.drop(0, 4 * i);
            due("counter, " + (5 - i) + " pages left", x.counter(0, 0), 5 - i);
        }
        risesBy("N042h10p99", 2, 4, 6);
        x.drop(0, 4);
        due("twice", x.counter(0, 0), 4);
        risesBy("N043h10p99", 3, 6);
        x.drop(0, 0);
        due("three times", x.counter(0, 0), 3);
        x.drop(0, 4);
        due("to 0", x.counter(0, 0), 0);
    }

    private static void counterIsStuck() {
        edge("filters", "But a counter that is 7 does not change any more", null);
        risesBy("N041h10p99", 1, 2, 3, 4, 5, 6, 7);
        for (int i = 0; i < 7; i++) {
            x.drop(0, 4 * i);
            due("counter, " + (6 - i) + " pages left", x.counter(0, 0), 7);
        }
        x.ask(0, 0);
        due("a page comes again", x.counter(0, 0), 7);
        risesBy("N041h10p99", 1, 2, 3, 4, 5, 6, 7, 7);
        x.drop(0, 28);
        due("the eighth page goes", x.counter(0, 0), 7);
        x.undo();
        x.undo();
        x.undo();
        due("undone, it is 6", x.counter(0, 0), 6);
        x.drop(0, 0);
        due("and changes", x.counter(0, 0), 5);
    }

    private static void counterIsStuckByTwo() {
        // Pages from 21 on have cell p % 4 by function 0, and (p + 3) % 4 by function 1: page 21 has cells 1 and 0.
        edge("filters", "But a counter that is 7 does not change any more", "N042h14p99");
        due("function 0 of page 21", x.hash(0, 21, 0), 1);
        due("function 1 of page 21", x.hash(0, 21, 1), 0);
        askAll(0, 0, 4, 21);
        due("5", x.counter(0, 0), 5);
        x.ask(0, 8);
        due("5 and 2", x.counter(0, 0), 7);
        x.drop(0, 8);
        due("as page 8 goes", x.counter(0, 0), 7);
        risesBy("N042h10p99", 2, 4, 6, 7);
        x.drop(0, 12);
        due("6 and 2, then the page goes", x.counter(0, 0), 7);
        risesBy("N043h10p99", 3, 6, 7);
        x.drop(0, 8);
        due("6 and 3, then the page goes", x.counter(0, 0), 7);
    }

    private static void stuckCounterBesideAnother() {
        edge("filters", "But a counter that is 7 does not change any more", "N042h14p99");
        askAll(0, 0, 4, 8, 12, 21);
        due("the counter that is 7", x.counter(0, 0), 7);
        due("the other one", x.counter(0, 1), 1);
        x.drop(0, 21);
        due("the counter that is 7", x.counter(0, 0), 7);
        due("the other one decreases", x.counter(0, 1), 0);
    }

    private static void stuckUntilRebuilt() {
        edge("filters", "all counters become 0, and then the pages of the shelf are counted again", "N042h10p99");
        askAll(0, 0, 4, 8, 12, 16);
        x.use(0);
        due("with five pages", x.counter(0, 0), 7);
        x.drop(0, 0);
        x.use(0);
        due("with four pages", x.counter(0, 0), 7);
        x.drop(0, 4);
        due("not yet rebuilt", x.counter(0, 0), 7);
        x.use(0);
        due("with three pages", x.counter(0, 0), 6);
        x.drop(0, 8);
        due("it changes again", x.counter(0, 0), 4);
        x.drop(0, 12);
        x.drop(0, 16);
        x.use(0);
        due("with no page", x.counter(0, 0), 0);
    }

    private static void stuckWithoutPages() {
        edge("filters", "But a counter that is 7 does not change any more: pages go as there is no room", "N042h10p49");
        askAll(0, 0, 4, 8, 12, 1, 2, 3, 5);
        shelfIs(0, 5, 3, 2, 1);
        due("no page has it", x.counter(0, 0), 7);
        edge("filters", "But a counter that is 7 does not change any more: it counts as before", "N042h10p99p99");
        askAll(0, 0, 4, 8, 12);
        for (int page = 0; page <= 12; page += 4) {
            x.drop(0, page);
        }
        due("the summary is empty", x.proxy(0, 4), 0);
        due("says", x.says(0, 28, true), 1);
        due("lost(1, 0, 3), numerator", x.lost(1, 0, 3, true), 3);
        due("lost(1, 0, 3), denominator", x.lost(1, 0, 3, false), 10);
        x.see(0, 2, 1);
        due("which", x.which(), 0x11111111);
        due("send, then its summary has page 28", x.judge(2, 3000050281L), NONE);
        due("use, then its summary has not", x.judge(2, 7000050280L), NONE);
        due("send", x.send(0), 1);
    }

    private static void stuckAsKept() {
        edge("promise 16", "counters [...] become as they were before it: one that is 7 with fewer pages",
                "N042h10p99p99s000s004s008s012");
        x.drop(0, 0);
        x.drop(0, 4);
        x.keep(0);
        x.use(0);
        due("rebuilt", x.counter(0, 0), 4);
        x.undo();
        due("undone", x.counter(0, 0), 7);
        x.drop(0, 8);
        due("it does not change", x.counter(0, 0), 7);
        x.use(0);
        due("rebuilt", x.counter(0, 0), 2);
        edge("promise 30", "Restores what is kept in a slot: a counter that is 7 with fewer pages",
                "N042h10p99p99s000s004s008s012");
        x.drop(0, 0);
        x.keep(1);
        x.use(0);
        due("rebuilt", x.counter(0, 0), 6);
        x.again(1);
        due("restored", x.counter(0, 0), 7);
        x.drop(0, 4);
        due("it does not change", x.counter(0, 0), 7);
    }

    private static void cellsAboveZero() {
        edge("filters", "The cells of a filter are those whose counters are above 0", "N041h10p99s000s004s001");
        due("two pages, one page, none, none", x.send(0), 3);
        x.drop(0, 0);
        due("one page each", x.send(0), 3);
        x.drop(0, 4);
        due("no more cell 0", x.send(0), 2);
        due("says of cell 0", x.says(0, 0, true), 0);
        x.drop(0, 1);
        due("an empty filter", x.send(0), 0);
        risesBy("N041h10p99", 1, 2, 3, 4, 5, 6, 7);
        for (int i = 0; i < 7; i++) {
            x.drop(0, 4 * i);
        }
        due("the cell of a counter that stays 7", x.send(0), 1);
        due("it contains page 28", x.says(0, 28, true), 1);
        another("N041h10p99s000s001s002s003");
        due("all cells", x.send(0), 15);
        another("N161h10p99s000s015");
        due("the first and the last of 16", x.send(0), 1 | 1 << 15);
    }

    private static void allFunctions() {
        // Page 0 has the cells 6, 0 and 1.
        edge("filters", "A set of cells contains a page if the cells of the page by all hash functions of the present"
                + " family are in the set", "N083h16p99s000");
        due("the summary", x.proxy(0, 4), 1 | 1 << 1 | 1 << 6);
        int[] missing = {13, 16, 19, 5, 1, 2, 4};
        for (int page : missing) {
            due("a page with a cell outside: " + page, x.says(0, page, false), 0);
            due("the filter, of the same page", x.says(0, page, true), 0);
        }
        due("page 0", x.says(0, 0, false), 1);
        due("the filter, of page 0", x.says(0, 0, true), 1);
        another("N041h10h20p99s001");
        x.ask(0, 3);
        due("cells 1 and 3 by family 0", x.says(0, 5, true), 1);
        x.use(1);
        due("by family 1 both are cell 2", x.says(0, 5, true), 1);
        due("as are those of 7", x.says(0, 7, false), 1);
        due("but not that of 6", x.says(0, 6, false), 0);
    }

    private static void noCells() {
        edge("filters", "A set of cells contains a page if the cells of the page by all hash functions of the present"
                + " family are in the set: an empty set", "N041h10p99");
        for (int page = 0; page < 32; page++) {
            due("summary, page " + page, x.says(0, page, false), 0);
            due("filter, page " + page, x.says(0, page, true), 0);
        }
        askAll(0, 0, 1, 2, 3);
        edge("promise 10", "false for the summary, true for the cells that the filter has now", "N041h10p99s000");
        x.drop(0, 0);
        due("the summary", x.says(0, 0, false), 1);
        due("the filter", x.says(0, 0, true), 0);
        x.ask(0, 1);
        due("the summary", x.says(0, 1, false), 0);
        due("the filter", x.says(0, 1, true), 1);
        x.send(0);
        due("the summary, sent", x.says(0, 0, false), 0);
        due("the summary, sent", x.says(0, 1, false), 1);
    }

    private static void properties() {
        edge("promise 6", "0 for its room, 1 for its threshold", "N041p11p19p91p99");
        int[] rooms = {1, 1, 9, 9};
        int[] thresholds = {1, 9, 1, 9};
        for (int i = 0; i < 4; i++) {
            due("room of " + i, x.proxy(i, 0), rooms[i]);
            due("threshold of " + i, x.proxy(i, 1), thresholds[i]);
        }
        edge("promise 6", "2 for the number of pages on its shelf", "N041p91p11");
        due("an empty shelf", x.proxy(0, 2), 0);
        for (int i = 0; i < 12; i++) {
            x.ask(0, i);
            due("behind page " + i, x.proxy(0, 2), Math.min(i + 1, 9));
        }
        askAll(1, 0, 1);
        due("a room of 1", x.proxy(1, 2), 1);
        edge("promise 6", "7 for the pages on its shelf (a bit set)", "N041p91p91s000s031");
        due("pages 0 and 31", x.proxy(0, 7), 1 | LEAST);
        due("none", x.proxy(1, 7), 0);
        x.drop(0, 0);
        due("page 31", x.proxy(0, 7), LEAST);
        edge("promise 6", "4 for its summary (a bit set of cells)", "N161h10p91p91s000s015");
        due("cells 0 and 15", x.proxy(0, 4), 1 | 1 << 15);
        due("no cells", x.proxy(1, 4), 0);
    }

    private static void wronglySaid() {
        edge("promise 6", "5 for the number of pages that its summary contains, but that are not on its shelf",
                "N041h10p99p99s000s001s002s003");
        due("all cells, four pages", x.proxy(0, 5), 28);
        due("no cells", x.proxy(1, 5), 0);
        for (int i = 0; i < 4; i++) {
            x.drop(0, i);
        }
        due("all cells, no page", x.proxy(0, 5), 32);
        x.send(0);
        due("no cells, no page", x.proxy(0, 5), 0);
        edge("promise 6", "6 for the number of pages that are on its shelf, but that its summary does not contain",
                "N041h10p99");
        for (int i = 0; i < 8; i++) {
            x.ask(0, i);
        }
        due("eight pages, not sent", x.proxy(0, 6), 8);
        due("nothing wrong", x.proxy(0, 5), 0);
        x.ask(0, 8);
        due("nine pages, sent", x.proxy(0, 6), 0);
        due("the others", x.proxy(0, 5), 23);
    }

    private static void pagesFrom0To31() {
        // By A = 2 and B = 0 page 32 would have the cell of page 20.
        edge("filters", "The pages are 0 to 31: none behind 31", "N081h20p99s020");
        due("pages 24 and 28", x.proxy(0, 5), 2);
        due("the best family's", x.best(0, 1), 2);
        x.see(0, 1, 1);
        due("which", x.which(), 1 << 20 | 1 << 24 | 1 << 28);
        // By A = 1 and B = 6 page -1 would have the cell of page 7.
        edge("filters", "The pages are 0 to 31: none before 0", "N081h16p99s007");
        due("pages 15 and 23", x.proxy(0, 5), 2);
        due("the best family's", x.best(0, 1), 2);
        x.see(0, 1, 1);
        due("which", x.which(), 1 << 7 | 1 << 15 | 1 << 23);
    }

    private static void changesAreCounted() {
        edge("promise 6", "3 for its number of changes", "N041p99p19s031s131");
        due("at first", x.proxy(0, 3), 0);
        x.ask(0, 1);
        due("a page came", x.proxy(0, 3), 1);
        x.drop(0, 1);
        due("and went", x.proxy(0, 3), 2);
        x.ask(1, 1);
        due("one went and one came", x.proxy(1, 3), 2);
        due("not to proxy 0", x.proxy(0, 3), 2);
        x.ask(0, 31);
        due("a page that was there", x.proxy(0, 3), 2);
        x.send(0);
        due("sent", x.proxy(0, 3), 0);
        due("not by proxy 1", x.proxy(1, 3), 2);
    }

    private static void places() {
        edge("promise 7", "NONE if the shelf has not so many pages", "N041p99");
        due("the first of an empty shelf", x.page(0, 0), NONE);
        due("the last of an empty shelf", x.page(0, 8), NONE);
        x.ask(0, 31);
        due("the first of one", x.page(0, 0), 31);
        due("the second of one", x.page(0, 1), NONE);
        askAll(0, 0, 1, 2, 3, 4, 5, 6);
        due("the eighth of eight", x.page(0, 7), 31);
        due("the ninth of eight", x.page(0, 8), NONE);
        x.ask(0, 7);
        due("the ninth of nine", x.page(0, 8), 31);
        due("the tenth of nine", x.page(0, 9), OUTSIDE);
        edge("promise 7", "OUTSIDE if place is out of range", "N041p99");
        for (int place : new int[] {-1, 9, 10, 256, LEAST, MOST}) {
            due("place " + place, x.page(0, place), OUTSIDE);
        }
        due("the last place inside", x.page(0, 8), NONE);
    }
}
